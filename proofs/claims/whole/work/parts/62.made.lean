def am_c8 : Nat → Nat → Int32
  | 0 => fun _ => 0
  | k + 1 => upd (am_c8 k) k (-1)
/-- the numbers behind the constructors -/
def am_S0 : am_S := fun q => if q = 2 then am_c8 8 else if q = 70 then am_c8 8 else fun _ => 0
def hx (σ : am_S) (h : am_H) (a ci : Nat) (fs : List Value) : am_H := fun k => if k < a then h k else if k = a then .inr (ci, fs) else am_mk σ k
def mx (h : am_H) (a : Nat) : am_H := fun k => if k < a then h k else am_mk am_S0 k
def mkP (h : am_H) (a N : Nat) : Option Value → am_H → Nat → Prop := fun v h' n' => v = none ∧ n' = N ∧ ∀ k, k < n' → h' k = mx h a k
theorem hx_at {σ : am_S} {h : am_H} {a ci : Nat} {fs : List Value} : hx σ h a ci fs a = .inr (ci, fs) := by
  unfold hx
  rw [if_neg (Nat.lt_irrefl a), if_pos rfl]
theorem hx_gt {σ : am_S} {h : am_H} {a ci : Nat} {fs : List Value} {k : Nat} (hk : a < k) : hx σ h a ci fs k = am_mk σ k := by
  unfold hx
  rw [if_neg (by omega), if_neg (by omega)]
theorem hx_up {σ : am_S} {h : am_H} {a ci n : Nat} {fs : List Value} {c : am_C} (ha : a < n) : am_up (hx σ h a ci fs) n c a = .inr (ci, fs) := by
  unfold am_up
  rw [if_neg (by omega), hx_at]
theorem am_up_at {h : am_H} {n : Nat} {c : am_C} : am_up h n c n = c := by
  unfold am_up
  rw [if_pos rfl]
theorem dfX0 : ∀ j, j < 6 → defaultValue (am_ty 0 j) = vp_V [.null, .int 0, .int 0, .int 0, .null, .int 0] j := by decide +kernel
theorem dfX1 : ∀ j, j < 8 → defaultValue (am_ty 1 j) = vp_V [.null, .null, .null, .null, .int 0, .null, .null, .int 0] j := by decide +kernel
theorem dfX2 : ∀ j, j < 3 → defaultValue (am_ty 2 j) = vp_V [.null, .null, .int 0] j := by decide +kernel
theorem dfX3 : ∀ j, j < 5 → defaultValue (am_ty 3 j) = vp_V [.null, .null, .null, .int 0, .int 0] j := by decide +kernel
theorem dfX4 : ∀ j, j < 3 → defaultValue (am_ty 4 j) = vp_V [.null, .null, .null] j := by decide +kernel
theorem dfX5 : ∀ j, j < 2 → defaultValue (am_ty 5 j) = vp_V [.int 0, .null] j := by decide +kernel
theorem dfX6 : ∀ j, j < 8 → defaultValue (am_ty 6 j) = vp_V [.null, .null, .null, .null, .null, .null, .null, .int 0] j := by decide +kernel
theorem dfX7 : ∀ j, j < 10 → defaultValue (am_ty 7 j) = vp_V [.null, .int 0, .null, .null, .null, .int 0, .int 0, .int 0, .int 0, .int 0] j := by decide +kernel
theorem dfX8 : ∀ j, j < 8 → defaultValue (am_ty 8 j) = vp_V [.int 0, .int 0, .null, .null, .null, .null, .null, .null] j := by decide +kernel
theorem dfX9 : ∀ j, j < 6 → defaultValue (am_ty 9 j) = vp_V [.null, .int 0, .int 0, .int 0, .int 0, .int 0] j := by decide +kernel
theorem dfX10 : ∀ j, j < 3 → defaultValue (am_ty 10 j) = vp_V [.null, .null, .null] j := by decide +kernel
theorem dfX11 : ∀ j, j < 14 → defaultValue (am_ty 11 j) = vp_V [.null, .null, .null, .null, .null, .null, .null, .null, .null, .null, .null, .null, .null, .int 0] j := by decide +kernel
theorem dfX12 : ∀ j, j < 41 → defaultValue (am_ty 12 j) = vp_V [.int 0, .int 0, .null, .null, .null, .null, .null, .int 0, .null, .null, .null, .int 0, .int 0, .int 0, .int 0, .int 0, .int 0, .int 0, .int 0, .int 0, .int 0, .int 0, .int 0, .int 0, .int 0, .int 0, .null, .null, .null, .null, .null, .null, .int 0, .null, .int 0, .int 0, .null, .null, .null, .null, .int 0] j := by decide +kernel
section HXR
variable {X : am_X0} {M : am_M} {d : Nat} {Q : Option Value → am_H → Nat → Prop} {mc ms pc nx : Nat} {L L' st : List Value} {h : am_H} {n k z : Nat} {x : List Nat} {y : Nat} {v : Value} {σ σ' : am_S} {a ci : Nat} {fs : List Value}
theorem HX.enter (hh : h a = .inr (ci, fs)) (kk : G X M d Q mc ms pc L st (hx σ h a ci fs) (a + 1) k z) : G X M d Q mc ms pc L st h (a + 1) k z := G.eqh (fun q hq => by
  unfold hx
  by_cases e : q < a
  · rw [if_pos e]
  · have e2 : q = a := by omega
    subst e2
    rw [if_neg e, if_pos rfl, hh]) kk
theorem HX.same (e : σ = σ') (kk : G X M d Q mc ms pc L st (hx σ' h a ci fs) n k z) : G X M d Q mc ms pc L st (hx σ h a ci fs) n k z := by rw [e]; exact kk
theorem HX.putf {a0 kf i : Nat} {fs' : List Value} {w : Value} (hj : am_at M pc = some (.putfield a0, nx, [ci, kf, i], y, v)) (ha : a < n) (hl0 : kf < fs.length) (hn : narrow (am_ty ci kf) w = w) (hf : fits (am_ty ci kf) w = true) (hN : M.1.name = "<init>") (e : fs.set kf w = fs') (kk : G X M d Q mc ms nx L st (hx σ h a ci fs') n k z) : G X M d Q mc ms pc L (w :: .ref a :: st) (hx σ h a ci fs) n k z := by
  refine G.putf hj ha hx_at hl0 hn hf (fun _ _ _ => hN) (G.eqh (h2 := hx σ h a ci fs') (fun q hq => ?_) kk)
  unfold am_up
  by_cases e1 : q = a
  · subst e1
    rw [if_pos rfl, hx_at, e]
  · rw [if_neg e1]
    unfold hx
    by_cases e2 : q < a
    · rw [if_pos e2, if_pos e2]
    · rw [if_neg e2, if_neg e2, if_neg e1, if_neg e1]
theorem HX.getf {a0 kf i : Nat} {w : Value} (hj : am_at M pc = some (.getfield a0, nx, [ci, kf, i], y, v)) (ha : a < n) (hw : fs[kf]? = some w) (kk : G X M d Q mc ms nx L (w :: st) (hx σ h a ci fs) n k z) : G X M d Q mc ms pc L (.ref a :: st) (hx σ h a ci fs) n k z := G.getf hj ha hx_at hw kk
theorem HX.getu {a0 kf i n0 : Nat} {w : Value} {c : am_C} (hj : am_at M pc = some (.getfield a0, nx, [ci, kf, i], y, v)) (ha : a < n0) (hn : a < n) (hw : fs[kf]? = some w) (kk : G X M d Q mc ms nx L (w :: st) (am_up (hx σ h a ci fs) n0 c) n k z) : G X M d Q mc ms pc L (.ref a :: st) (am_up (hx σ h a ci fs) n0 c) n k z := G.getf hj hn (hx_up ha) hw kk
theorem HX.newa {t : ArrayType} {i kd N n1 k1 z1 : Nat} {u : Int32} (hj : am_at M pc = some (.newarray t, nx, [i, kd], y, v)) (hd0 : defaultValue (am_K0 kd) = .int 0) (hn : ¬ u < 0) (hN : u.toNatClampNeg = N) (hb : N * componentBytes (am_K0 kd) ≤ 536870912) (hk1 : k + 1 ≤ mc) (hz1 : z + N ≤ ms) (hn1 : n < 1000) (ha : a < n) (e : am_mk σ n = .inl (kd, N, fun _ => 0)) (en : n + 1 = n1) (ek : k + 1 = k1) (ez : z + N = z1)
    (kk : G X M d Q mc ms nx L (.ref n :: st) (hx σ h a ci fs) n1 k1 z1) : G X M d Q mc ms pc L (.int u :: st) (hx σ h a ci fs) n k z := by
  subst en ek ez
  refine G.newa hj hd0 hn hN hb hk1 hz1 hn1 (G.eqh (h2 := hx σ h a ci fs) (fun q hq => ?_) kk)
  unfold am_up
  by_cases e1 : q = n
  · subst e1
    rw [if_pos rfl, hx_gt ha, e]
  · rw [if_neg e1]
theorem HX.new {a0 cj i1 i2 i3 n1 k1 z1 : Nat} {qc : vw_C} {fs2 : List Value} (hj : am_at M pc = some (.new a0, nx, [cj, i1, i2, i3], y, v)) (hq : vwCl[cj]? = some qc) (hfs : ∀ j, j < qc.2.2 → defaultValue (am_ty cj j) = vp_V fs2 j) (hnr : am_noR fs2 = true) (hk1 : k + 1 ≤ mc) (hz1 : z + qc.2.2 ≤ ms) (hn1 : n < 1000) (en : n + 1 = n1) (ek : k + 1 = k1) (ez : z + qc.2.2 = z1)
    (kk : G X M d Q mc ms nx L (.ref n :: st) (am_up h n (.inr (cj, fs2))) n1 k1 z1) : G X M d Q mc ms pc L st h n k z := by
  subst en ek ez
  exact G.new hj hq hfs hnr hk1 hz1 hn1 kk
theorem HX.callI {a0 b d' mc' ms' np N k1 z1 : Nat} {args st0 : List Value} {c : am_C} {M' : am_M} (hj : am_at M pc = some (.invokespecial a0, nx, x, y, v)) (hcall : Call M' d' (.ref b :: args) (am_up (hx am_S0 h a ci fs) b c) n mc' ms' (mkP (am_up (hx am_S0 h a ci fs) b c) b N)) (hst : st0 = args.reverse ++ (.ref b :: st)) (hy : am_yn y = M'.1) (hC : am_okC2 M' 2 np) (hnp : args.length = np) (hd : d' + 1 ≤ d) (hk0 : k + mc' ≤ mc) (hz0 : z + ms' ≤ ms) (hcat : (st.map fun v => v.category).sum ≤ 8) (ha : a < b) (ek : k + mc' = k1) (ez : z + ms' = z1)
    (kk : G X M d Q mc ms nx L st (hx am_S0 h a ci fs) N k1 z1) : G X M d Q mc ms pc L st0 (am_up (hx am_S0 h a ci fs) b c) n k z := by
  subst hst ek ez
  refine G.callI hj hy hC hnp hd hk0 hz0 hcat hcall (fun v h' n' q => ?_)
  obtain ⟨rfl, rfl, q⟩ := q
  refine G.eqh (h2 := hx am_S0 h a ci fs) (fun j hj => ?_) kk
  rw [q j hj]
  unfold mx am_up
  by_cases e : j < b
  · rw [if_pos e, if_neg (by omega)]
  · rw [if_neg e, hx_gt (by omega)]
theorem HX.iast {q len i : Nat} {f f' : Nat → Int32} {u b : Int32} (hj : am_at M pc = some (.iastore, nx, x, y, v)) (hq : q < n) (haq : a < q) (hs : am_sh q = some (.inl (0, len))) (hin : vp_in u len) (hi : u.toNatClampNeg = i) (e : upd f i b = f') (kk : G X M d Q mc ms nx L st (hx (am_s1 σ q f') h a ci fs) n k z) : G X M d Q mc ms pc L (.int b :: .int u :: .ref q :: st) (hx (am_s1 σ q f) h a ci fs) n k z := by
  have hh : hx (am_s1 σ q f) h a ci fs q = .inl (0, len, f) := by rw [hx_gt haq, am_mk_arr hs, am_s1_eq]
  refine G.iastore hj hq hh hin (G.eqh (h2 := hx (am_s1 σ q f') h a ci fs) (fun j _ => ?_) kk)
  unfold am_up
  by_cases e1 : j = q
  · subst e1
    rw [if_pos rfl, hx_gt haq, am_mk_arr hs, am_s1_eq, hi, e]
  · rw [if_neg e1]
    unfold hx
    by_cases e2 : j < a
    · rw [if_pos e2, if_pos e2]
    · by_cases e3 : j = a
      · rw [if_neg e2, if_neg e2, if_pos e3, if_pos e3]
      · rw [if_neg e2, if_neg e2, if_neg e3, if_neg e3]
        unfold am_mk
        rw [am_s1_ne _ _ e1, am_s1_ne _ _ e1]
theorem HX.ret (hj : am_at M pc = some (.return_, nx, x, y, v)) (hr : M.2.2.2.1 = none) (e : am_mk am_S0 a = .inr (ci, fs)) : G X M d (mkP h a n) mc ms pc L [] (hx am_S0 h a ci fs) n k z := by
  refine G.vret hj hr ⟨rfl, rfl, fun j _ => ?_⟩
  unfold hx mx
  by_cases e2 : j < a
  · rw [if_pos e2, if_pos e2]
  · rw [if_neg e2, if_neg e2]
    by_cases e3 : j = a
    · rw [if_pos e3, e3, e]
    · rw [if_neg e3]
end HXR
theorem hO1 : Cond.instanceMethod Lib.objectInit ∈ lw_T := lw_T_in2 (lw_m1 (i := 25) rfl) rfl
theorem hO2 : Cond.code Lib.objectInit ⟨#[0xb1]⟩ 1 none ∈ lw_T := lw_T_in2 (lw_m1 (i := 26) rfl) rfl
theorem mk_fill (h : am_H) (fs : List Value) : Call mX11_fill 1 [.ref 2, .int (-1)] (hx (am_s1 am_S0 2 (am_c8 0)) h 1 4 fs) 5 0 0 (fun v h' n' => v = none ∧ n' = 5 ∧ ∀ k, k < n' → h' k = hx am_S0 h 1 4 fs k) := by
  refine am_Met kX11_fill pX11_fill (Nat.le_of_ble_eq_true rfl) ?_
  refine G.iconst rfl ?_
  refine G.istore_n rfl rfl ?_
  refine G.iload_n rfl rfl ?_
  refine G.aload_n rfl rfl ?_
  refine G.alen (len := 8) rfl (Nat.le_of_ble_eq_true rfl) (by rw [hx_gt (Nat.le_of_ble_eq_true rfl)]; rfl) ?_
  refine G.icmp_ge rfl (fun q => absurd q (by decide)) (fun _ => ?_)
  refine G.aload_n rfl rfl ?_
  refine G.iload_n rfl rfl ?_
  refine G.iload_n rfl rfl ?_
  refine HX.iast (i := 0) (f' := am_c8 1) rfl (Nat.le_of_ble_eq_true rfl) (Nat.le_of_ble_eq_true rfl) rfl (by rw [am_in]; decide) rfl rfl ?_
  refine G.iinc (w := 0) rfl rfl rfl ?_
  refine G.goto rfl ?_
  refine G.iload_n rfl rfl ?_
  refine G.aload_n rfl rfl ?_
  refine G.alen (len := 8) rfl (Nat.le_of_ble_eq_true rfl) (by rw [hx_gt (Nat.le_of_ble_eq_true rfl)]; rfl) ?_
  refine G.icmp_ge rfl (fun q => absurd q (by decide)) (fun _ => ?_)
  refine G.aload_n rfl rfl ?_
  refine G.iload_n rfl rfl ?_
  refine G.iload_n rfl rfl ?_
  refine HX.iast (i := 1) (f' := am_c8 2) rfl (Nat.le_of_ble_eq_true rfl) (Nat.le_of_ble_eq_true rfl) rfl (by rw [am_in]; decide) rfl rfl ?_
  refine G.iinc (w := 1) rfl rfl rfl ?_
  refine G.goto rfl ?_
  refine G.iload_n rfl rfl ?_
  refine G.aload_n rfl rfl ?_
  refine G.alen (len := 8) rfl (Nat.le_of_ble_eq_true rfl) (by rw [hx_gt (Nat.le_of_ble_eq_true rfl)]; rfl) ?_
  refine G.icmp_ge rfl (fun q => absurd q (by decide)) (fun _ => ?_)
  refine G.aload_n rfl rfl ?_
  refine G.iload_n rfl rfl ?_
  refine G.iload_n rfl rfl ?_
  refine HX.iast (i := 2) (f' := am_c8 3) rfl (Nat.le_of_ble_eq_true rfl) (Nat.le_of_ble_eq_true rfl) rfl (by rw [am_in]; decide) rfl rfl ?_
  refine G.iinc (w := 2) rfl rfl rfl ?_
  refine G.goto rfl ?_
  refine G.iload_n rfl rfl ?_
  refine G.aload_n rfl rfl ?_
  refine G.alen (len := 8) rfl (Nat.le_of_ble_eq_true rfl) (by rw [hx_gt (Nat.le_of_ble_eq_true rfl)]; rfl) ?_
  refine G.icmp_ge rfl (fun q => absurd q (by decide)) (fun _ => ?_)
  refine G.aload_n rfl rfl ?_
  refine G.iload_n rfl rfl ?_
  refine G.iload_n rfl rfl ?_
  refine HX.iast (i := 3) (f' := am_c8 4) rfl (Nat.le_of_ble_eq_true rfl) (Nat.le_of_ble_eq_true rfl) rfl (by rw [am_in]; decide) rfl rfl ?_
  refine G.iinc (w := 3) rfl rfl rfl ?_
  refine G.goto rfl ?_
  refine G.iload_n rfl rfl ?_
  refine G.aload_n rfl rfl ?_
  refine G.alen (len := 8) rfl (Nat.le_of_ble_eq_true rfl) (by rw [hx_gt (Nat.le_of_ble_eq_true rfl)]; rfl) ?_
  refine G.icmp_ge rfl (fun q => absurd q (by decide)) (fun _ => ?_)
  refine G.aload_n rfl rfl ?_
  refine G.iload_n rfl rfl ?_
  refine G.iload_n rfl rfl ?_
  refine HX.iast (i := 4) (f' := am_c8 5) rfl (Nat.le_of_ble_eq_true rfl) (Nat.le_of_ble_eq_true rfl) rfl (by rw [am_in]; decide) rfl rfl ?_
  refine G.iinc (w := 4) rfl rfl rfl ?_
  refine G.goto rfl ?_
  refine G.iload_n rfl rfl ?_
  refine G.aload_n rfl rfl ?_
  refine G.alen (len := 8) rfl (Nat.le_of_ble_eq_true rfl) (by rw [hx_gt (Nat.le_of_ble_eq_true rfl)]; rfl) ?_
  refine G.icmp_ge rfl (fun q => absurd q (by decide)) (fun _ => ?_)
  refine G.aload_n rfl rfl ?_
  refine G.iload_n rfl rfl ?_
  refine G.iload_n rfl rfl ?_
  refine HX.iast (i := 5) (f' := am_c8 6) rfl (Nat.le_of_ble_eq_true rfl) (Nat.le_of_ble_eq_true rfl) rfl (by rw [am_in]; decide) rfl rfl ?_
  refine G.iinc (w := 5) rfl rfl rfl ?_
  refine G.goto rfl ?_
  refine G.iload_n rfl rfl ?_
  refine G.aload_n rfl rfl ?_
  refine G.alen (len := 8) rfl (Nat.le_of_ble_eq_true rfl) (by rw [hx_gt (Nat.le_of_ble_eq_true rfl)]; rfl) ?_
  refine G.icmp_ge rfl (fun q => absurd q (by decide)) (fun _ => ?_)
  refine G.aload_n rfl rfl ?_
  refine G.iload_n rfl rfl ?_
  refine G.iload_n rfl rfl ?_
  refine HX.iast (i := 6) (f' := am_c8 7) rfl (Nat.le_of_ble_eq_true rfl) (Nat.le_of_ble_eq_true rfl) rfl (by rw [am_in]; decide) rfl rfl ?_
  refine G.iinc (w := 6) rfl rfl rfl ?_
  refine G.goto rfl ?_
  refine G.iload_n rfl rfl ?_
  refine G.aload_n rfl rfl ?_
  refine G.alen (len := 8) rfl (Nat.le_of_ble_eq_true rfl) (by rw [hx_gt (Nat.le_of_ble_eq_true rfl)]; rfl) ?_
  refine G.icmp_ge rfl (fun q => absurd q (by decide)) (fun _ => ?_)
  refine G.aload_n rfl rfl ?_
  refine G.iload_n rfl rfl ?_
  refine G.iload_n rfl rfl ?_
  refine HX.iast (i := 7) (f' := am_c8 8) rfl (Nat.le_of_ble_eq_true rfl) (Nat.le_of_ble_eq_true rfl) rfl (by rw [am_in]; decide) rfl rfl ?_
  refine G.iinc (w := 7) rfl rfl rfl ?_
  refine G.goto rfl ?_
  refine G.iload_n rfl rfl ?_
  refine G.aload_n rfl rfl ?_
  refine G.alen (len := 8) rfl (Nat.le_of_ble_eq_true rfl) (by rw [hx_gt (Nat.le_of_ble_eq_true rfl)]; rfl) ?_
  refine G.icmp_ge rfl (fun _ => ?_) (fun q => absurd (by decide) q)
  refine HX.same (σ' := am_S0) (am_s1_self am_S0 2) ?_
  exact G.vret rfl rfl ⟨rfl, rfl, fun _ _ => rfl⟩
theorem mk_1 (h : am_H) (hh : h 1 = .inr (4, [.null, .null, .null])) : Call mX4_init 2 [.ref 1] h 2 3 336 (mkP h 1 5) := by
  refine am_Met kX4_init pX4_init (Nat.le_of_ble_eq_true rfl) ?_
  refine HX.enter (σ := (am_s1 am_S0 2 (am_c8 0))) (ci := 4) (fs := [.null, .null, .null]) hh ?_
  refine G.aload_n rfl rfl ?_
  refine G.objI rfl hO1 hO2 (Nat.le_of_ble_eq_true rfl) (Nat.le_of_ble_eq_true rfl) ?_
  refine G.aload_n rfl rfl ?_
  refine G.bipush rfl ?_
  refine HX.newa (kd := 0) (N := 8) (n1 := 3) (k1 := 1) (z1 := 8) rfl rfl (by decide) rfl (Nat.le_of_ble_eq_true rfl) (Nat.le_of_ble_eq_true rfl) (Nat.le_of_ble_eq_true rfl) (Nat.le_of_ble_eq_true rfl) (Nat.le_of_ble_eq_true rfl) rfl rfl rfl rfl ?_
  refine HX.putf (fs' := [.ref 2, .null, .null]) rfl (Nat.le_of_ble_eq_true rfl) (Nat.le_of_ble_eq_true rfl) rfl rfl rfl rfl ?_
  refine G.aload_n rfl rfl ?_
  refine G.bipush rfl ?_
  refine HX.newa (kd := 0) (N := 8) (n1 := 4) (k1 := 2) (z1 := 16) rfl rfl (by decide) rfl (Nat.le_of_ble_eq_true rfl) (Nat.le_of_ble_eq_true rfl) (Nat.le_of_ble_eq_true rfl) (Nat.le_of_ble_eq_true rfl) (Nat.le_of_ble_eq_true rfl) rfl rfl rfl rfl ?_
  refine HX.putf (fs' := [.ref 2, .ref 3, .null]) rfl (Nat.le_of_ble_eq_true rfl) (Nat.le_of_ble_eq_true rfl) rfl rfl rfl rfl ?_
  refine G.aload_n rfl rfl ?_
  refine G.sipush rfl ?_
  refine HX.newa (kd := 0) (N := 320) (n1 := 5) (k1 := 3) (z1 := 336) rfl rfl (by decide) rfl (Nat.le_of_ble_eq_true rfl) (Nat.le_of_ble_eq_true rfl) (Nat.le_of_ble_eq_true rfl) (Nat.le_of_ble_eq_true rfl) (Nat.le_of_ble_eq_true rfl) rfl rfl rfl rfl ?_
  refine HX.putf (fs' := [.ref 2, .ref 3, .ref 4]) rfl (Nat.le_of_ble_eq_true rfl) (Nat.le_of_ble_eq_true rfl) rfl rfl rfl rfl ?_
  refine G.aload_n rfl rfl ?_
  refine HX.getf (w := .ref 2) rfl (Nat.le_of_ble_eq_true rfl) rfl ?_
  refine G.iconst rfl ?_
  refine G.callS (args := [.ref 2, .int (-1)]) (k := 3) (z := 336) rfl rfl oX11_fill rfl (Nat.le_of_ble_eq_true rfl) (Nat.le_of_ble_eq_true rfl) (Nat.le_of_ble_eq_true rfl) (Nat.le_of_ble_eq_true rfl) (mk_fill _ _) (fun v h' n' q => ?_)
  obtain ⟨rfl, rfl, q⟩ := q
  refine G.eqh q ?_
  exact HX.ret rfl rfl rfl
theorem mk_5 (h : am_H) (hh : h 5 = .inr (7, [.null, .int 0, .null, .null, .null, .int 0, .int 0, .int 0, .int 0, .int 0])) : Call mX7_init 1 [.ref 5] h 6 4 1603 (mkP h 5 10) := by
  refine am_Met kX7_init pX7_init (Nat.le_of_ble_eq_true rfl) ?_
  refine HX.enter (σ := am_S0) (ci := 7) (fs := [.null, .int 0, .null, .null, .null, .int 0, .int 0, .int 0, .int 0, .int 0]) hh ?_
  refine G.aload_n rfl rfl ?_
  refine G.objI rfl hO1 hO2 (Nat.le_of_ble_eq_true rfl) (Nat.le_of_ble_eq_true rfl) ?_
  refine G.aload_n rfl rfl ?_
  refine G.sipush rfl ?_
  refine HX.newa (kd := 0) (N := 400) (n1 := 7) (k1 := 1) (z1 := 400) rfl rfl (by decide) rfl (Nat.le_of_ble_eq_true rfl) (Nat.le_of_ble_eq_true rfl) (Nat.le_of_ble_eq_true rfl) (Nat.le_of_ble_eq_true rfl) (Nat.le_of_ble_eq_true rfl) rfl rfl rfl rfl ?_
  refine HX.putf (fs' := [.ref 6, .int 0, .null, .null, .null, .int 0, .int 0, .int 0, .int 0, .int 0]) rfl (Nat.le_of_ble_eq_true rfl) (Nat.le_of_ble_eq_true rfl) rfl rfl rfl rfl ?_
  refine G.aload_n rfl rfl ?_
  refine G.sipush rfl ?_
  refine HX.newa (kd := 0) (N := 401) (n1 := 8) (k1 := 2) (z1 := 801) rfl rfl (by decide) rfl (Nat.le_of_ble_eq_true rfl) (Nat.le_of_ble_eq_true rfl) (Nat.le_of_ble_eq_true rfl) (Nat.le_of_ble_eq_true rfl) (Nat.le_of_ble_eq_true rfl) rfl rfl rfl rfl ?_
  refine HX.putf (fs' := [.ref 6, .int 0, .ref 7, .null, .null, .int 0, .int 0, .int 0, .int 0, .int 0]) rfl (Nat.le_of_ble_eq_true rfl) (Nat.le_of_ble_eq_true rfl) rfl rfl rfl rfl ?_
  refine G.aload_n rfl rfl ?_
  refine G.sipush rfl ?_
  refine HX.newa (kd := 0) (N := 401) (n1 := 9) (k1 := 3) (z1 := 1202) rfl rfl (by decide) rfl (Nat.le_of_ble_eq_true rfl) (Nat.le_of_ble_eq_true rfl) (Nat.le_of_ble_eq_true rfl) (Nat.le_of_ble_eq_true rfl) (Nat.le_of_ble_eq_true rfl) rfl rfl rfl rfl ?_
  refine HX.putf (fs' := [.ref 6, .int 0, .ref 7, .ref 8, .null, .int 0, .int 0, .int 0, .int 0, .int 0]) rfl (Nat.le_of_ble_eq_true rfl) (Nat.le_of_ble_eq_true rfl) rfl rfl rfl rfl ?_
  refine G.aload_n rfl rfl ?_
  refine G.sipush rfl ?_
  refine HX.newa (kd := 0) (N := 401) (n1 := 10) (k1 := 4) (z1 := 1603) rfl rfl (by decide) rfl (Nat.le_of_ble_eq_true rfl) (Nat.le_of_ble_eq_true rfl) (Nat.le_of_ble_eq_true rfl) (Nat.le_of_ble_eq_true rfl) (Nat.le_of_ble_eq_true rfl) rfl rfl rfl rfl ?_
  refine HX.putf (fs' := [.ref 6, .int 0, .ref 7, .ref 8, .ref 9, .int 0, .int 0, .int 0, .int 0, .int 0]) rfl (Nat.le_of_ble_eq_true rfl) (Nat.le_of_ble_eq_true rfl) rfl rfl rfl rfl ?_
  exact HX.ret rfl rfl rfl
theorem mk_10 (h : am_H) (hh : h 10 = .inr (8, [.int 0, .int 0, .null, .null, .null, .null, .null, .null])) : Call mX8_init 1 [.ref 10] h 11 6 144 (mkP h 10 17) := by
  refine am_Met kX8_init pX8_init (Nat.le_of_ble_eq_true rfl) ?_
  refine HX.enter (σ := am_S0) (ci := 8) (fs := [.int 0, .int 0, .null, .null, .null, .null, .null, .null]) hh ?_
  refine G.aload_n rfl rfl ?_
  refine G.objI rfl hO1 hO2 (Nat.le_of_ble_eq_true rfl) (Nat.le_of_ble_eq_true rfl) ?_
  refine G.aload_n rfl rfl ?_
  refine G.bipush rfl ?_
  refine HX.newa (kd := 0) (N := 8) (n1 := 12) (k1 := 1) (z1 := 8) rfl rfl (by decide) rfl (Nat.le_of_ble_eq_true rfl) (Nat.le_of_ble_eq_true rfl) (Nat.le_of_ble_eq_true rfl) (Nat.le_of_ble_eq_true rfl) (Nat.le_of_ble_eq_true rfl) rfl rfl rfl rfl ?_
  refine HX.putf (fs' := [.int 0, .int 0, .ref 11, .null, .null, .null, .null, .null]) rfl (Nat.le_of_ble_eq_true rfl) (Nat.le_of_ble_eq_true rfl) rfl rfl rfl rfl ?_
  refine G.aload_n rfl rfl ?_
  refine G.bipush rfl ?_
  refine HX.newa (kd := 0) (N := 8) (n1 := 13) (k1 := 2) (z1 := 16) rfl rfl (by decide) rfl (Nat.le_of_ble_eq_true rfl) (Nat.le_of_ble_eq_true rfl) (Nat.le_of_ble_eq_true rfl) (Nat.le_of_ble_eq_true rfl) (Nat.le_of_ble_eq_true rfl) rfl rfl rfl rfl ?_
  refine HX.putf (fs' := [.int 0, .int 0, .ref 11, .ref 12, .null, .null, .null, .null]) rfl (Nat.le_of_ble_eq_true rfl) (Nat.le_of_ble_eq_true rfl) rfl rfl rfl rfl ?_
  refine G.aload_n rfl rfl ?_
  refine G.bipush rfl ?_
  refine HX.newa (kd := 0) (N := 8) (n1 := 14) (k1 := 3) (z1 := 24) rfl rfl (by decide) rfl (Nat.le_of_ble_eq_true rfl) (Nat.le_of_ble_eq_true rfl) (Nat.le_of_ble_eq_true rfl) (Nat.le_of_ble_eq_true rfl) (Nat.le_of_ble_eq_true rfl) rfl rfl rfl rfl ?_
  refine HX.putf (fs' := [.int 0, .int 0, .ref 11, .ref 12, .ref 13, .null, .null, .null]) rfl (Nat.le_of_ble_eq_true rfl) (Nat.le_of_ble_eq_true rfl) rfl rfl rfl rfl ?_
  refine G.aload_n rfl rfl ?_
  refine G.bipush rfl ?_
  refine HX.newa (kd := 0) (N := 8) (n1 := 15) (k1 := 4) (z1 := 32) rfl rfl (by decide) rfl (Nat.le_of_ble_eq_true rfl) (Nat.le_of_ble_eq_true rfl) (Nat.le_of_ble_eq_true rfl) (Nat.le_of_ble_eq_true rfl) (Nat.le_of_ble_eq_true rfl) rfl rfl rfl rfl ?_
  refine HX.putf (fs' := [.int 0, .int 0, .ref 11, .ref 12, .ref 13, .ref 14, .null, .null]) rfl (Nat.le_of_ble_eq_true rfl) (Nat.le_of_ble_eq_true rfl) rfl rfl rfl rfl ?_
  refine G.aload_n rfl rfl ?_
  refine G.bipush rfl ?_
  refine HX.newa (kd := 0) (N := 48) (n1 := 16) (k1 := 5) (z1 := 80) rfl rfl (by decide) rfl (Nat.le_of_ble_eq_true rfl) (Nat.le_of_ble_eq_true rfl) (Nat.le_of_ble_eq_true rfl) (Nat.le_of_ble_eq_true rfl) (Nat.le_of_ble_eq_true rfl) rfl rfl rfl rfl ?_
  refine HX.putf (fs' := [.int 0, .int 0, .ref 11, .ref 12, .ref 13, .ref 14, .ref 15, .null]) rfl (Nat.le_of_ble_eq_true rfl) (Nat.le_of_ble_eq_true rfl) rfl rfl rfl rfl ?_
  refine G.aload_n rfl rfl ?_
  refine G.bipush rfl ?_
  refine HX.newa (kd := 0) (N := 64) (n1 := 17) (k1 := 6) (z1 := 144) rfl rfl (by decide) rfl (Nat.le_of_ble_eq_true rfl) (Nat.le_of_ble_eq_true rfl) (Nat.le_of_ble_eq_true rfl) (Nat.le_of_ble_eq_true rfl) (Nat.le_of_ble_eq_true rfl) rfl rfl rfl rfl ?_
  refine HX.putf (fs' := [.int 0, .int 0, .ref 11, .ref 12, .ref 13, .ref 14, .ref 15, .ref 16]) rfl (Nat.le_of_ble_eq_true rfl) (Nat.le_of_ble_eq_true rfl) rfl rfl rfl rfl ?_
  exact HX.ret rfl rfl rfl
theorem mk_17 (h : am_H) (hh : h 17 = .inr (8, [.int 0, .int 0, .null, .null, .null, .null, .null, .null])) : Call mX8_init 1 [.ref 17] h 18 6 144 (mkP h 17 24) := by
  refine am_Met kX8_init pX8_init (Nat.le_of_ble_eq_true rfl) ?_
  refine HX.enter (σ := am_S0) (ci := 8) (fs := [.int 0, .int 0, .null, .null, .null, .null, .null, .null]) hh ?_
  refine G.aload_n rfl rfl ?_
  refine G.objI rfl hO1 hO2 (Nat.le_of_ble_eq_true rfl) (Nat.le_of_ble_eq_true rfl) ?_
  refine G.aload_n rfl rfl ?_
  refine G.bipush rfl ?_
  refine HX.newa (kd := 0) (N := 8) (n1 := 19) (k1 := 1) (z1 := 8) rfl rfl (by decide) rfl (Nat.le_of_ble_eq_true rfl) (Nat.le_of_ble_eq_true rfl) (Nat.le_of_ble_eq_true rfl) (Nat.le_of_ble_eq_true rfl) (Nat.le_of_ble_eq_true rfl) rfl rfl rfl rfl ?_
  refine HX.putf (fs' := [.int 0, .int 0, .ref 18, .null, .null, .null, .null, .null]) rfl (Nat.le_of_ble_eq_true rfl) (Nat.le_of_ble_eq_true rfl) rfl rfl rfl rfl ?_
  refine G.aload_n rfl rfl ?_
  refine G.bipush rfl ?_
  refine HX.newa (kd := 0) (N := 8) (n1 := 20) (k1 := 2) (z1 := 16) rfl rfl (by decide) rfl (Nat.le_of_ble_eq_true rfl) (Nat.le_of_ble_eq_true rfl) (Nat.le_of_ble_eq_true rfl) (Nat.le_of_ble_eq_true rfl) (Nat.le_of_ble_eq_true rfl) rfl rfl rfl rfl ?_
  refine HX.putf (fs' := [.int 0, .int 0, .ref 18, .ref 19, .null, .null, .null, .null]) rfl (Nat.le_of_ble_eq_true rfl) (Nat.le_of_ble_eq_true rfl) rfl rfl rfl rfl ?_
  refine G.aload_n rfl rfl ?_
  refine G.bipush rfl ?_
  refine HX.newa (kd := 0) (N := 8) (n1 := 21) (k1 := 3) (z1 := 24) rfl rfl (by decide) rfl (Nat.le_of_ble_eq_true rfl) (Nat.le_of_ble_eq_true rfl) (Nat.le_of_ble_eq_true rfl) (Nat.le_of_ble_eq_true rfl) (Nat.le_of_ble_eq_true rfl) rfl rfl rfl rfl ?_
  refine HX.putf (fs' := [.int 0, .int 0, .ref 18, .ref 19, .ref 20, .null, .null, .null]) rfl (Nat.le_of_ble_eq_true rfl) (Nat.le_of_ble_eq_true rfl) rfl rfl rfl rfl ?_
  refine G.aload_n rfl rfl ?_
  refine G.bipush rfl ?_
  refine HX.newa (kd := 0) (N := 8) (n1 := 22) (k1 := 4) (z1 := 32) rfl rfl (by decide) rfl (Nat.le_of_ble_eq_true rfl) (Nat.le_of_ble_eq_true rfl) (Nat.le_of_ble_eq_true rfl) (Nat.le_of_ble_eq_true rfl) (Nat.le_of_ble_eq_true rfl) rfl rfl rfl rfl ?_
  refine HX.putf (fs' := [.int 0, .int 0, .ref 18, .ref 19, .ref 20, .ref 21, .null, .null]) rfl (Nat.le_of_ble_eq_true rfl) (Nat.le_of_ble_eq_true rfl) rfl rfl rfl rfl ?_
  refine G.aload_n rfl rfl ?_
  refine G.bipush rfl ?_
  refine HX.newa (kd := 0) (N := 48) (n1 := 23) (k1 := 5) (z1 := 80) rfl rfl (by decide) rfl (Nat.le_of_ble_eq_true rfl) (Nat.le_of_ble_eq_true rfl) (Nat.le_of_ble_eq_true rfl) (Nat.le_of_ble_eq_true rfl) (Nat.le_of_ble_eq_true rfl) rfl rfl rfl rfl ?_
  refine HX.putf (fs' := [.int 0, .int 0, .ref 18, .ref 19, .ref 20, .ref 21, .ref 22, .null]) rfl (Nat.le_of_ble_eq_true rfl) (Nat.le_of_ble_eq_true rfl) rfl rfl rfl rfl ?_
  refine G.aload_n rfl rfl ?_
  refine G.bipush rfl ?_
  refine HX.newa (kd := 0) (N := 64) (n1 := 24) (k1 := 6) (z1 := 144) rfl rfl (by decide) rfl (Nat.le_of_ble_eq_true rfl) (Nat.le_of_ble_eq_true rfl) (Nat.le_of_ble_eq_true rfl) (Nat.le_of_ble_eq_true rfl) (Nat.le_of_ble_eq_true rfl) rfl rfl rfl rfl ?_
  refine HX.putf (fs' := [.int 0, .int 0, .ref 18, .ref 19, .ref 20, .ref 21, .ref 22, .ref 23]) rfl (Nat.le_of_ble_eq_true rfl) (Nat.le_of_ble_eq_true rfl) rfl rfl rfl rfl ?_
  exact HX.ret rfl rfl rfl
theorem mk_24 (h : am_H) (hh : h 24 = .inr (5, [.int 0, .null])) : Call mX5_init 1 [.ref 24] h 25 1 12 (mkP h 24 26) := by
  refine am_Met kX5_init pX5_init (Nat.le_of_ble_eq_true rfl) ?_
  refine HX.enter (σ := am_S0) (ci := 5) (fs := [.int 0, .null]) hh ?_
  refine G.aload_n rfl rfl ?_
  refine G.objI rfl hO1 hO2 (Nat.le_of_ble_eq_true rfl) (Nat.le_of_ble_eq_true rfl) ?_
  refine G.aload_n rfl rfl ?_
  refine G.bipush rfl ?_
  refine HX.newa (kd := 0) (N := 12) (n1 := 26) (k1 := 1) (z1 := 12) rfl rfl (by decide) rfl (Nat.le_of_ble_eq_true rfl) (Nat.le_of_ble_eq_true rfl) (Nat.le_of_ble_eq_true rfl) (Nat.le_of_ble_eq_true rfl) (Nat.le_of_ble_eq_true rfl) rfl rfl rfl rfl ?_
  refine HX.putf (fs' := [.int 0, .ref 25]) rfl (Nat.le_of_ble_eq_true rfl) (Nat.le_of_ble_eq_true rfl) rfl rfl rfl rfl ?_
  exact HX.ret rfl rfl rfl
theorem mk_26 (h : am_H) (hh : h 26 = .inr (5, [.int 0, .null])) : Call mX5_init 1 [.ref 26] h 27 1 12 (mkP h 26 28) := by
  refine am_Met kX5_init pX5_init (Nat.le_of_ble_eq_true rfl) ?_
  refine HX.enter (σ := am_S0) (ci := 5) (fs := [.int 0, .null]) hh ?_
  refine G.aload_n rfl rfl ?_
  refine G.objI rfl hO1 hO2 (Nat.le_of_ble_eq_true rfl) (Nat.le_of_ble_eq_true rfl) ?_
  refine G.aload_n rfl rfl ?_
  refine G.bipush rfl ?_
  refine HX.newa (kd := 0) (N := 12) (n1 := 28) (k1 := 1) (z1 := 12) rfl rfl (by decide) rfl (Nat.le_of_ble_eq_true rfl) (Nat.le_of_ble_eq_true rfl) (Nat.le_of_ble_eq_true rfl) (Nat.le_of_ble_eq_true rfl) (Nat.le_of_ble_eq_true rfl) rfl rfl rfl rfl ?_
  refine HX.putf (fs' := [.int 0, .ref 27]) rfl (Nat.le_of_ble_eq_true rfl) (Nat.le_of_ble_eq_true rfl) rfl rfl rfl rfl ?_
  exact HX.ret rfl rfl rfl
theorem mk_29 (h : am_H) (hh : h 29 = .inr (8, [.int 0, .int 0, .null, .null, .null, .null, .null, .null])) : Call mX8_init 1 [.ref 29] h 30 6 144 (mkP h 29 36) := by
  refine am_Met kX8_init pX8_init (Nat.le_of_ble_eq_true rfl) ?_
  refine HX.enter (σ := am_S0) (ci := 8) (fs := [.int 0, .int 0, .null, .null, .null, .null, .null, .null]) hh ?_
  refine G.aload_n rfl rfl ?_
  refine G.objI rfl hO1 hO2 (Nat.le_of_ble_eq_true rfl) (Nat.le_of_ble_eq_true rfl) ?_
  refine G.aload_n rfl rfl ?_
  refine G.bipush rfl ?_
  refine HX.newa (kd := 0) (N := 8) (n1 := 31) (k1 := 1) (z1 := 8) rfl rfl (by decide) rfl (Nat.le_of_ble_eq_true rfl) (Nat.le_of_ble_eq_true rfl) (Nat.le_of_ble_eq_true rfl) (Nat.le_of_ble_eq_true rfl) (Nat.le_of_ble_eq_true rfl) rfl rfl rfl rfl ?_
  refine HX.putf (fs' := [.int 0, .int 0, .ref 30, .null, .null, .null, .null, .null]) rfl (Nat.le_of_ble_eq_true rfl) (Nat.le_of_ble_eq_true rfl) rfl rfl rfl rfl ?_
  refine G.aload_n rfl rfl ?_
  refine G.bipush rfl ?_
  refine HX.newa (kd := 0) (N := 8) (n1 := 32) (k1 := 2) (z1 := 16) rfl rfl (by decide) rfl (Nat.le_of_ble_eq_true rfl) (Nat.le_of_ble_eq_true rfl) (Nat.le_of_ble_eq_true rfl) (Nat.le_of_ble_eq_true rfl) (Nat.le_of_ble_eq_true rfl) rfl rfl rfl rfl ?_
  refine HX.putf (fs' := [.int 0, .int 0, .ref 30, .ref 31, .null, .null, .null, .null]) rfl (Nat.le_of_ble_eq_true rfl) (Nat.le_of_ble_eq_true rfl) rfl rfl rfl rfl ?_
  refine G.aload_n rfl rfl ?_
  refine G.bipush rfl ?_
  refine HX.newa (kd := 0) (N := 8) (n1 := 33) (k1 := 3) (z1 := 24) rfl rfl (by decide) rfl (Nat.le_of_ble_eq_true rfl) (Nat.le_of_ble_eq_true rfl) (Nat.le_of_ble_eq_true rfl) (Nat.le_of_ble_eq_true rfl) (Nat.le_of_ble_eq_true rfl) rfl rfl rfl rfl ?_
  refine HX.putf (fs' := [.int 0, .int 0, .ref 30, .ref 31, .ref 32, .null, .null, .null]) rfl (Nat.le_of_ble_eq_true rfl) (Nat.le_of_ble_eq_true rfl) rfl rfl rfl rfl ?_
  refine G.aload_n rfl rfl ?_
  refine G.bipush rfl ?_
  refine HX.newa (kd := 0) (N := 8) (n1 := 34) (k1 := 4) (z1 := 32) rfl rfl (by decide) rfl (Nat.le_of_ble_eq_true rfl) (Nat.le_of_ble_eq_true rfl) (Nat.le_of_ble_eq_true rfl) (Nat.le_of_ble_eq_true rfl) (Nat.le_of_ble_eq_true rfl) rfl rfl rfl rfl ?_
  refine HX.putf (fs' := [.int 0, .int 0, .ref 30, .ref 31, .ref 32, .ref 33, .null, .null]) rfl (Nat.le_of_ble_eq_true rfl) (Nat.le_of_ble_eq_true rfl) rfl rfl rfl rfl ?_
  refine G.aload_n rfl rfl ?_
  refine G.bipush rfl ?_
  refine HX.newa (kd := 0) (N := 48) (n1 := 35) (k1 := 5) (z1 := 80) rfl rfl (by decide) rfl (Nat.le_of_ble_eq_true rfl) (Nat.le_of_ble_eq_true rfl) (Nat.le_of_ble_eq_true rfl) (Nat.le_of_ble_eq_true rfl) (Nat.le_of_ble_eq_true rfl) rfl rfl rfl rfl ?_
  refine HX.putf (fs' := [.int 0, .int 0, .ref 30, .ref 31, .ref 32, .ref 33, .ref 34, .null]) rfl (Nat.le_of_ble_eq_true rfl) (Nat.le_of_ble_eq_true rfl) rfl rfl rfl rfl ?_
  refine G.aload_n rfl rfl ?_
  refine G.bipush rfl ?_
  refine HX.newa (kd := 0) (N := 64) (n1 := 36) (k1 := 6) (z1 := 144) rfl rfl (by decide) rfl (Nat.le_of_ble_eq_true rfl) (Nat.le_of_ble_eq_true rfl) (Nat.le_of_ble_eq_true rfl) (Nat.le_of_ble_eq_true rfl) (Nat.le_of_ble_eq_true rfl) rfl rfl rfl rfl ?_
  refine HX.putf (fs' := [.int 0, .int 0, .ref 30, .ref 31, .ref 32, .ref 33, .ref 34, .ref 35]) rfl (Nat.le_of_ble_eq_true rfl) (Nat.le_of_ble_eq_true rfl) rfl rfl rfl rfl ?_
  exact HX.ret rfl rfl rfl
theorem mk_36 (h : am_H) (hh : h 36 = .inr (5, [.int 0, .null])) : Call mX5_init 1 [.ref 36] h 37 1 12 (mkP h 36 38) := by
  refine am_Met kX5_init pX5_init (Nat.le_of_ble_eq_true rfl) ?_
  refine HX.enter (σ := am_S0) (ci := 5) (fs := [.int 0, .null]) hh ?_
  refine G.aload_n rfl rfl ?_
  refine G.objI rfl hO1 hO2 (Nat.le_of_ble_eq_true rfl) (Nat.le_of_ble_eq_true rfl) ?_
  refine G.aload_n rfl rfl ?_
  refine G.bipush rfl ?_
  refine HX.newa (kd := 0) (N := 12) (n1 := 38) (k1 := 1) (z1 := 12) rfl rfl (by decide) rfl (Nat.le_of_ble_eq_true rfl) (Nat.le_of_ble_eq_true rfl) (Nat.le_of_ble_eq_true rfl) (Nat.le_of_ble_eq_true rfl) (Nat.le_of_ble_eq_true rfl) rfl rfl rfl rfl ?_
  refine HX.putf (fs' := [.int 0, .ref 37]) rfl (Nat.le_of_ble_eq_true rfl) (Nat.le_of_ble_eq_true rfl) rfl rfl rfl rfl ?_
  exact HX.ret rfl rfl rfl
theorem mk_28 (h : am_H) (hh : h 28 = .inr (2, [.null, .null, .int 0])) : Call mX2_init 2 [.ref 28] h 29 9 166 (mkP h 28 38) := by
  refine am_Met kX2_init pX2_init (Nat.le_of_ble_eq_true rfl) ?_
  refine HX.enter (σ := am_S0) (ci := 2) (fs := [.null, .null, .int 0]) hh ?_
  refine G.aload_n rfl rfl ?_
  refine G.objI rfl hO1 hO2 (Nat.le_of_ble_eq_true rfl) (Nat.le_of_ble_eq_true rfl) ?_
  refine G.aload_n rfl rfl ?_
  refine HX.new (cj := 8) (fs2 := [.int 0, .int 0, .null, .null, .null, .null, .null, .null]) (n1 := 30) (k1 := 1) (z1 := 8) rfl rfl dfX8 rfl (Nat.le_of_ble_eq_true rfl) (Nat.le_of_ble_eq_true rfl) (Nat.le_of_ble_eq_true rfl) rfl rfl rfl ?_
  refine G.dup rfl rfl ?_
  refine HX.callI (N := 36) (k1 := 7) (z1 := 152) rfl (mk_29 _ am_up_at) rfl rfl oX8_init rfl (Nat.le_of_ble_eq_true rfl) (Nat.le_of_ble_eq_true rfl) (Nat.le_of_ble_eq_true rfl) (Nat.le_of_ble_eq_true rfl) (Nat.le_of_ble_eq_true rfl) rfl rfl ?_
  refine HX.putf (fs' := [.ref 29, .null, .int 0]) rfl (Nat.le_of_ble_eq_true rfl) (Nat.le_of_ble_eq_true rfl) rfl rfl rfl rfl ?_
  refine G.aload_n rfl rfl ?_
  refine HX.new (cj := 5) (fs2 := [.int 0, .null]) (n1 := 37) (k1 := 8) (z1 := 154) rfl rfl dfX5 rfl (Nat.le_of_ble_eq_true rfl) (Nat.le_of_ble_eq_true rfl) (Nat.le_of_ble_eq_true rfl) rfl rfl rfl ?_
  refine G.dup rfl rfl ?_
  refine HX.callI (N := 38) (k1 := 9) (z1 := 166) rfl (mk_36 _ am_up_at) rfl rfl oX5_init rfl (Nat.le_of_ble_eq_true rfl) (Nat.le_of_ble_eq_true rfl) (Nat.le_of_ble_eq_true rfl) (Nat.le_of_ble_eq_true rfl) (Nat.le_of_ble_eq_true rfl) rfl rfl ?_
  refine HX.putf (fs' := [.ref 29, .ref 36, .int 0]) rfl (Nat.le_of_ble_eq_true rfl) (Nat.le_of_ble_eq_true rfl) rfl rfl rfl rfl ?_
  exact HX.ret rfl rfl rfl
theorem mk_39 (h : am_H) (hh : h 39 = .inr (8, [.int 0, .int 0, .null, .null, .null, .null, .null, .null])) : Call mX8_init 1 [.ref 39] h 40 6 144 (mkP h 39 46) := by
  refine am_Met kX8_init pX8_init (Nat.le_of_ble_eq_true rfl) ?_
  refine HX.enter (σ := am_S0) (ci := 8) (fs := [.int 0, .int 0, .null, .null, .null, .null, .null, .null]) hh ?_
  refine G.aload_n rfl rfl ?_
  refine G.objI rfl hO1 hO2 (Nat.le_of_ble_eq_true rfl) (Nat.le_of_ble_eq_true rfl) ?_
  refine G.aload_n rfl rfl ?_
  refine G.bipush rfl ?_
  refine HX.newa (kd := 0) (N := 8) (n1 := 41) (k1 := 1) (z1 := 8) rfl rfl (by decide) rfl (Nat.le_of_ble_eq_true rfl) (Nat.le_of_ble_eq_true rfl) (Nat.le_of_ble_eq_true rfl) (Nat.le_of_ble_eq_true rfl) (Nat.le_of_ble_eq_true rfl) rfl rfl rfl rfl ?_
  refine HX.putf (fs' := [.int 0, .int 0, .ref 40, .null, .null, .null, .null, .null]) rfl (Nat.le_of_ble_eq_true rfl) (Nat.le_of_ble_eq_true rfl) rfl rfl rfl rfl ?_
  refine G.aload_n rfl rfl ?_
  refine G.bipush rfl ?_
  refine HX.newa (kd := 0) (N := 8) (n1 := 42) (k1 := 2) (z1 := 16) rfl rfl (by decide) rfl (Nat.le_of_ble_eq_true rfl) (Nat.le_of_ble_eq_true rfl) (Nat.le_of_ble_eq_true rfl) (Nat.le_of_ble_eq_true rfl) (Nat.le_of_ble_eq_true rfl) rfl rfl rfl rfl ?_
  refine HX.putf (fs' := [.int 0, .int 0, .ref 40, .ref 41, .null, .null, .null, .null]) rfl (Nat.le_of_ble_eq_true rfl) (Nat.le_of_ble_eq_true rfl) rfl rfl rfl rfl ?_
  refine G.aload_n rfl rfl ?_
  refine G.bipush rfl ?_
  refine HX.newa (kd := 0) (N := 8) (n1 := 43) (k1 := 3) (z1 := 24) rfl rfl (by decide) rfl (Nat.le_of_ble_eq_true rfl) (Nat.le_of_ble_eq_true rfl) (Nat.le_of_ble_eq_true rfl) (Nat.le_of_ble_eq_true rfl) (Nat.le_of_ble_eq_true rfl) rfl rfl rfl rfl ?_
  refine HX.putf (fs' := [.int 0, .int 0, .ref 40, .ref 41, .ref 42, .null, .null, .null]) rfl (Nat.le_of_ble_eq_true rfl) (Nat.le_of_ble_eq_true rfl) rfl rfl rfl rfl ?_
  refine G.aload_n rfl rfl ?_
  refine G.bipush rfl ?_
  refine HX.newa (kd := 0) (N := 8) (n1 := 44) (k1 := 4) (z1 := 32) rfl rfl (by decide) rfl (Nat.le_of_ble_eq_true rfl) (Nat.le_of_ble_eq_true rfl) (Nat.le_of_ble_eq_true rfl) (Nat.le_of_ble_eq_true rfl) (Nat.le_of_ble_eq_true rfl) rfl rfl rfl rfl ?_
  refine HX.putf (fs' := [.int 0, .int 0, .ref 40, .ref 41, .ref 42, .ref 43, .null, .null]) rfl (Nat.le_of_ble_eq_true rfl) (Nat.le_of_ble_eq_true rfl) rfl rfl rfl rfl ?_
  refine G.aload_n rfl rfl ?_
  refine G.bipush rfl ?_
  refine HX.newa (kd := 0) (N := 48) (n1 := 45) (k1 := 5) (z1 := 80) rfl rfl (by decide) rfl (Nat.le_of_ble_eq_true rfl) (Nat.le_of_ble_eq_true rfl) (Nat.le_of_ble_eq_true rfl) (Nat.le_of_ble_eq_true rfl) (Nat.le_of_ble_eq_true rfl) rfl rfl rfl rfl ?_
  refine HX.putf (fs' := [.int 0, .int 0, .ref 40, .ref 41, .ref 42, .ref 43, .ref 44, .null]) rfl (Nat.le_of_ble_eq_true rfl) (Nat.le_of_ble_eq_true rfl) rfl rfl rfl rfl ?_
  refine G.aload_n rfl rfl ?_
  refine G.bipush rfl ?_
  refine HX.newa (kd := 0) (N := 64) (n1 := 46) (k1 := 6) (z1 := 144) rfl rfl (by decide) rfl (Nat.le_of_ble_eq_true rfl) (Nat.le_of_ble_eq_true rfl) (Nat.le_of_ble_eq_true rfl) (Nat.le_of_ble_eq_true rfl) (Nat.le_of_ble_eq_true rfl) rfl rfl rfl rfl ?_
  refine HX.putf (fs' := [.int 0, .int 0, .ref 40, .ref 41, .ref 42, .ref 43, .ref 44, .ref 45]) rfl (Nat.le_of_ble_eq_true rfl) (Nat.le_of_ble_eq_true rfl) rfl rfl rfl rfl ?_
  exact HX.ret rfl rfl rfl
theorem mk_46 (h : am_H) (hh : h 46 = .inr (5, [.int 0, .null])) : Call mX5_init 1 [.ref 46] h 47 1 12 (mkP h 46 48) := by
  refine am_Met kX5_init pX5_init (Nat.le_of_ble_eq_true rfl) ?_
  refine HX.enter (σ := am_S0) (ci := 5) (fs := [.int 0, .null]) hh ?_
  refine G.aload_n rfl rfl ?_
  refine G.objI rfl hO1 hO2 (Nat.le_of_ble_eq_true rfl) (Nat.le_of_ble_eq_true rfl) ?_
  refine G.aload_n rfl rfl ?_
  refine G.bipush rfl ?_
  refine HX.newa (kd := 0) (N := 12) (n1 := 48) (k1 := 1) (z1 := 12) rfl rfl (by decide) rfl (Nat.le_of_ble_eq_true rfl) (Nat.le_of_ble_eq_true rfl) (Nat.le_of_ble_eq_true rfl) (Nat.le_of_ble_eq_true rfl) (Nat.le_of_ble_eq_true rfl) rfl rfl rfl rfl ?_
  refine HX.putf (fs' := [.int 0, .ref 47]) rfl (Nat.le_of_ble_eq_true rfl) (Nat.le_of_ble_eq_true rfl) rfl rfl rfl rfl ?_
  exact HX.ret rfl rfl rfl
theorem mk_38 (h : am_H) (hh : h 38 = .inr (2, [.null, .null, .int 0])) : Call mX2_init 2 [.ref 38] h 39 9 166 (mkP h 38 48) := by
  refine am_Met kX2_init pX2_init (Nat.le_of_ble_eq_true rfl) ?_
  refine HX.enter (σ := am_S0) (ci := 2) (fs := [.null, .null, .int 0]) hh ?_
  refine G.aload_n rfl rfl ?_
  refine G.objI rfl hO1 hO2 (Nat.le_of_ble_eq_true rfl) (Nat.le_of_ble_eq_true rfl) ?_
  refine G.aload_n rfl rfl ?_
  refine HX.new (cj := 8) (fs2 := [.int 0, .int 0, .null, .null, .null, .null, .null, .null]) (n1 := 40) (k1 := 1) (z1 := 8) rfl rfl dfX8 rfl (Nat.le_of_ble_eq_true rfl) (Nat.le_of_ble_eq_true rfl) (Nat.le_of_ble_eq_true rfl) rfl rfl rfl ?_
  refine G.dup rfl rfl ?_
  refine HX.callI (N := 46) (k1 := 7) (z1 := 152) rfl (mk_39 _ am_up_at) rfl rfl oX8_init rfl (Nat.le_of_ble_eq_true rfl) (Nat.le_of_ble_eq_true rfl) (Nat.le_of_ble_eq_true rfl) (Nat.le_of_ble_eq_true rfl) (Nat.le_of_ble_eq_true rfl) rfl rfl ?_
  refine HX.putf (fs' := [.ref 39, .null, .int 0]) rfl (Nat.le_of_ble_eq_true rfl) (Nat.le_of_ble_eq_true rfl) rfl rfl rfl rfl ?_
  refine G.aload_n rfl rfl ?_
  refine HX.new (cj := 5) (fs2 := [.int 0, .null]) (n1 := 47) (k1 := 8) (z1 := 154) rfl rfl dfX5 rfl (Nat.le_of_ble_eq_true rfl) (Nat.le_of_ble_eq_true rfl) (Nat.le_of_ble_eq_true rfl) rfl rfl rfl ?_
  refine G.dup rfl rfl ?_
  refine HX.callI (N := 48) (k1 := 9) (z1 := 166) rfl (mk_46 _ am_up_at) rfl rfl oX5_init rfl (Nat.le_of_ble_eq_true rfl) (Nat.le_of_ble_eq_true rfl) (Nat.le_of_ble_eq_true rfl) (Nat.le_of_ble_eq_true rfl) (Nat.le_of_ble_eq_true rfl) rfl rfl ?_
  refine HX.putf (fs' := [.ref 39, .ref 46, .int 0]) rfl (Nat.le_of_ble_eq_true rfl) (Nat.le_of_ble_eq_true rfl) rfl rfl rfl rfl ?_
  exact HX.ret rfl rfl rfl
theorem mk_49 (h : am_H) (hh : h 49 = .inr (9, [.null, .int 0, .int 0, .int 0, .int 0, .int 0])) : Call mX9_init 1 [.ref 49, .ref 10] h 50 0 0 (mkP h 49 50) := by
  refine am_Met kX9_init pX9_init (Nat.le_of_ble_eq_true rfl) ?_
  refine HX.enter (σ := am_S0) (ci := 9) (fs := [.null, .int 0, .int 0, .int 0, .int 0, .int 0]) hh ?_
  refine G.aload_n rfl rfl ?_
  refine G.objI rfl hO1 hO2 (Nat.le_of_ble_eq_true rfl) (Nat.le_of_ble_eq_true rfl) ?_
  refine G.aload_n rfl rfl ?_
  refine G.aload_n rfl rfl ?_
  refine HX.putf (fs' := [.ref 10, .int 0, .int 0, .int 0, .int 0, .int 0]) rfl (Nat.le_of_ble_eq_true rfl) (Nat.le_of_ble_eq_true rfl) rfl rfl rfl rfl ?_
  exact HX.ret rfl rfl rfl
theorem mk_50 (h : am_H) (hh : h 50 = .inr (9, [.null, .int 0, .int 0, .int 0, .int 0, .int 0])) : Call mX9_init 1 [.ref 50, .ref 10] h 51 0 0 (mkP h 50 51) := by
  refine am_Met kX9_init pX9_init (Nat.le_of_ble_eq_true rfl) ?_
  refine HX.enter (σ := am_S0) (ci := 9) (fs := [.null, .int 0, .int 0, .int 0, .int 0, .int 0]) hh ?_
  refine G.aload_n rfl rfl ?_
  refine G.objI rfl hO1 hO2 (Nat.le_of_ble_eq_true rfl) (Nat.le_of_ble_eq_true rfl) ?_
  refine G.aload_n rfl rfl ?_
  refine G.aload_n rfl rfl ?_
  refine HX.putf (fs' := [.ref 10, .int 0, .int 0, .int 0, .int 0, .int 0]) rfl (Nat.le_of_ble_eq_true rfl) (Nat.le_of_ble_eq_true rfl) rfl rfl rfl rfl ?_
  exact HX.ret rfl rfl rfl
theorem mk_48 (h : am_H) (hh : h 48 = .inr (10, [.null, .null, .null])) : Call mX10_init 2 [.ref 48, .ref 10, .ref 24] h 49 2 12 (mkP h 48 51) := by
  refine am_Met kX10_init pX10_init (Nat.le_of_ble_eq_true rfl) ?_
  refine HX.enter (σ := am_S0) (ci := 10) (fs := [.null, .null, .null]) hh ?_
  refine G.aload_n rfl rfl ?_
  refine G.objI rfl hO1 hO2 (Nat.le_of_ble_eq_true rfl) (Nat.le_of_ble_eq_true rfl) ?_
  refine G.aload_n rfl rfl ?_
  refine G.aload_n rfl rfl ?_
  refine HX.putf (fs' := [.ref 24, .null, .null]) rfl (Nat.le_of_ble_eq_true rfl) (Nat.le_of_ble_eq_true rfl) rfl rfl rfl rfl ?_
  refine G.aload_n rfl rfl ?_
  refine HX.new (cj := 9) (fs2 := [.null, .int 0, .int 0, .int 0, .int 0, .int 0]) (n1 := 50) (k1 := 1) (z1 := 6) rfl rfl dfX9 rfl (Nat.le_of_ble_eq_true rfl) (Nat.le_of_ble_eq_true rfl) (Nat.le_of_ble_eq_true rfl) rfl rfl rfl ?_
  refine G.dup rfl rfl ?_
  refine G.aload_n rfl rfl ?_
  refine HX.callI (N := 50) (k1 := 1) (z1 := 6) rfl (mk_49 _ am_up_at) rfl rfl oX9_init rfl (Nat.le_of_ble_eq_true rfl) (Nat.le_of_ble_eq_true rfl) (Nat.le_of_ble_eq_true rfl) (Nat.le_of_ble_eq_true rfl) (Nat.le_of_ble_eq_true rfl) rfl rfl ?_
  refine HX.putf (fs' := [.ref 24, .ref 49, .null]) rfl (Nat.le_of_ble_eq_true rfl) (Nat.le_of_ble_eq_true rfl) rfl rfl rfl rfl ?_
  refine G.aload_n rfl rfl ?_
  refine HX.new (cj := 9) (fs2 := [.null, .int 0, .int 0, .int 0, .int 0, .int 0]) (n1 := 51) (k1 := 2) (z1 := 12) rfl rfl dfX9 rfl (Nat.le_of_ble_eq_true rfl) (Nat.le_of_ble_eq_true rfl) (Nat.le_of_ble_eq_true rfl) rfl rfl rfl ?_
  refine G.dup rfl rfl ?_
  refine G.aload_n rfl rfl ?_
  refine HX.callI (N := 51) (k1 := 2) (z1 := 12) rfl (mk_50 _ am_up_at) rfl rfl oX9_init rfl (Nat.le_of_ble_eq_true rfl) (Nat.le_of_ble_eq_true rfl) (Nat.le_of_ble_eq_true rfl) (Nat.le_of_ble_eq_true rfl) (Nat.le_of_ble_eq_true rfl) rfl rfl ?_
  refine HX.putf (fs' := [.ref 24, .ref 49, .ref 50]) rfl (Nat.le_of_ble_eq_true rfl) (Nat.le_of_ble_eq_true rfl) rfl rfl rfl rfl ?_
  exact HX.ret rfl rfl rfl
theorem mk_51 (h : am_H) (hh : h 51 = .inr (1, [.null, .null, .null, .null, .int 0, .null, .null, .int 0])) : Call mX1_init 1 [.ref 51, .ref 10] h 52 5 240 (mkP h 51 57) := by
  refine am_Met kX1_init pX1_init (Nat.le_of_ble_eq_true rfl) ?_
  refine HX.enter (σ := am_S0) (ci := 1) (fs := [.null, .null, .null, .null, .int 0, .null, .null, .int 0]) hh ?_
  refine G.aload_n rfl rfl ?_
  refine G.objI rfl hO1 hO2 (Nat.le_of_ble_eq_true rfl) (Nat.le_of_ble_eq_true rfl) ?_
  refine G.aload_n rfl rfl ?_
  refine G.bipush rfl ?_
  refine HX.newa (kd := 0) (N := 96) (n1 := 53) (k1 := 1) (z1 := 96) rfl rfl (by decide) rfl (Nat.le_of_ble_eq_true rfl) (Nat.le_of_ble_eq_true rfl) (Nat.le_of_ble_eq_true rfl) (Nat.le_of_ble_eq_true rfl) (Nat.le_of_ble_eq_true rfl) rfl rfl rfl rfl ?_
  refine HX.putf (fs' := [.null, .ref 52, .null, .null, .int 0, .null, .null, .int 0]) rfl (Nat.le_of_ble_eq_true rfl) (Nat.le_of_ble_eq_true rfl) rfl rfl rfl rfl ?_
  refine G.aload_n rfl rfl ?_
  refine G.bipush rfl ?_
  refine HX.newa (kd := 0) (N := 8) (n1 := 54) (k1 := 2) (z1 := 104) rfl rfl (by decide) rfl (Nat.le_of_ble_eq_true rfl) (Nat.le_of_ble_eq_true rfl) (Nat.le_of_ble_eq_true rfl) (Nat.le_of_ble_eq_true rfl) (Nat.le_of_ble_eq_true rfl) rfl rfl rfl rfl ?_
  refine HX.putf (fs' := [.null, .ref 52, .ref 53, .null, .int 0, .null, .null, .int 0]) rfl (Nat.le_of_ble_eq_true rfl) (Nat.le_of_ble_eq_true rfl) rfl rfl rfl rfl ?_
  refine G.aload_n rfl rfl ?_
  refine G.bipush rfl ?_
  refine HX.newa (kd := 0) (N := 8) (n1 := 55) (k1 := 3) (z1 := 112) rfl rfl (by decide) rfl (Nat.le_of_ble_eq_true rfl) (Nat.le_of_ble_eq_true rfl) (Nat.le_of_ble_eq_true rfl) (Nat.le_of_ble_eq_true rfl) (Nat.le_of_ble_eq_true rfl) rfl rfl rfl rfl ?_
  refine HX.putf (fs' := [.null, .ref 52, .ref 53, .ref 54, .int 0, .null, .null, .int 0]) rfl (Nat.le_of_ble_eq_true rfl) (Nat.le_of_ble_eq_true rfl) rfl rfl rfl rfl ?_
  refine G.aload_n rfl rfl ?_
  refine G.bipush rfl ?_
  refine HX.newa (kd := 0) (N := 64) (n1 := 56) (k1 := 4) (z1 := 176) rfl rfl (by decide) rfl (Nat.le_of_ble_eq_true rfl) (Nat.le_of_ble_eq_true rfl) (Nat.le_of_ble_eq_true rfl) (Nat.le_of_ble_eq_true rfl) (Nat.le_of_ble_eq_true rfl) rfl rfl rfl rfl ?_
  refine HX.putf (fs' := [.null, .ref 52, .ref 53, .ref 54, .int 0, .ref 55, .null, .int 0]) rfl (Nat.le_of_ble_eq_true rfl) (Nat.le_of_ble_eq_true rfl) rfl rfl rfl rfl ?_
  refine G.aload_n rfl rfl ?_
  refine G.bipush rfl ?_
  refine HX.newa (kd := 0) (N := 64) (n1 := 57) (k1 := 5) (z1 := 240) rfl rfl (by decide) rfl (Nat.le_of_ble_eq_true rfl) (Nat.le_of_ble_eq_true rfl) (Nat.le_of_ble_eq_true rfl) (Nat.le_of_ble_eq_true rfl) (Nat.le_of_ble_eq_true rfl) rfl rfl rfl rfl ?_
  refine HX.putf (fs' := [.null, .ref 52, .ref 53, .ref 54, .int 0, .ref 55, .ref 56, .int 0]) rfl (Nat.le_of_ble_eq_true rfl) (Nat.le_of_ble_eq_true rfl) rfl rfl rfl rfl ?_
  refine G.aload_n rfl rfl ?_
  refine G.aload_n rfl rfl ?_
  refine HX.putf (fs' := [.ref 10, .ref 52, .ref 53, .ref 54, .int 0, .ref 55, .ref 56, .int 0]) rfl (Nat.le_of_ble_eq_true rfl) (Nat.le_of_ble_eq_true rfl) rfl rfl rfl rfl ?_
  exact HX.ret rfl rfl rfl
theorem mk_63 (h : am_H) (hh : h 63 = .inr (9, [.null, .int 0, .int 0, .int 0, .int 0, .int 0])) : Call mX9_init 1 [.ref 63, .ref 10] h 64 0 0 (mkP h 63 64) := by
  refine am_Met kX9_init pX9_init (Nat.le_of_ble_eq_true rfl) ?_
  refine HX.enter (σ := am_S0) (ci := 9) (fs := [.null, .int 0, .int 0, .int 0, .int 0, .int 0]) hh ?_
  refine G.aload_n rfl rfl ?_
  refine G.objI rfl hO1 hO2 (Nat.le_of_ble_eq_true rfl) (Nat.le_of_ble_eq_true rfl) ?_
  refine G.aload_n rfl rfl ?_
  refine G.aload_n rfl rfl ?_
  refine HX.putf (fs' := [.ref 10, .int 0, .int 0, .int 0, .int 0, .int 0]) rfl (Nat.le_of_ble_eq_true rfl) (Nat.le_of_ble_eq_true rfl) rfl rfl rfl rfl ?_
  exact HX.ret rfl rfl rfl
theorem mk_57 (h : am_H) (hh : h 57 = .inr (6, [.null, .null, .null, .null, .null, .null, .null, .int 0])) : Call mX6_init 2 [.ref 57, .ref 10] h 58 6 726 (mkP h 57 64) := by
  refine am_Met kX6_init pX6_init (Nat.le_of_ble_eq_true rfl) ?_
  refine HX.enter (σ := am_S0) (ci := 6) (fs := [.null, .null, .null, .null, .null, .null, .null, .int 0]) hh ?_
  refine G.aload_n rfl rfl ?_
  refine G.objI rfl hO1 hO2 (Nat.le_of_ble_eq_true rfl) (Nat.le_of_ble_eq_true rfl) ?_
  refine G.aload_n rfl rfl ?_
  refine G.sipush rfl ?_
  refine HX.newa (kd := 0) (N := 144) (n1 := 59) (k1 := 1) (z1 := 144) rfl rfl (by decide) rfl (Nat.le_of_ble_eq_true rfl) (Nat.le_of_ble_eq_true rfl) (Nat.le_of_ble_eq_true rfl) (Nat.le_of_ble_eq_true rfl) (Nat.le_of_ble_eq_true rfl) rfl rfl rfl rfl ?_
  refine HX.putf (fs' := [.null, .null, .ref 58, .null, .null, .null, .null, .int 0]) rfl (Nat.le_of_ble_eq_true rfl) (Nat.le_of_ble_eq_true rfl) rfl rfl rfl rfl ?_
  refine G.aload_n rfl rfl ?_
  refine G.sipush rfl ?_
  refine HX.newa (kd := 0) (N := 144) (n1 := 60) (k1 := 2) (z1 := 288) rfl rfl (by decide) rfl (Nat.le_of_ble_eq_true rfl) (Nat.le_of_ble_eq_true rfl) (Nat.le_of_ble_eq_true rfl) (Nat.le_of_ble_eq_true rfl) (Nat.le_of_ble_eq_true rfl) rfl rfl rfl rfl ?_
  refine HX.putf (fs' := [.null, .null, .ref 58, .ref 59, .null, .null, .null, .int 0]) rfl (Nat.le_of_ble_eq_true rfl) (Nat.le_of_ble_eq_true rfl) rfl rfl rfl rfl ?_
  refine G.aload_n rfl rfl ?_
  refine G.sipush rfl ?_
  refine HX.newa (kd := 0) (N := 144) (n1 := 61) (k1 := 3) (z1 := 432) rfl rfl (by decide) rfl (Nat.le_of_ble_eq_true rfl) (Nat.le_of_ble_eq_true rfl) (Nat.le_of_ble_eq_true rfl) (Nat.le_of_ble_eq_true rfl) (Nat.le_of_ble_eq_true rfl) rfl rfl rfl rfl ?_
  refine HX.putf (fs' := [.null, .null, .ref 58, .ref 59, .ref 60, .null, .null, .int 0]) rfl (Nat.le_of_ble_eq_true rfl) (Nat.le_of_ble_eq_true rfl) rfl rfl rfl rfl ?_
  refine G.aload_n rfl rfl ?_
  refine G.sipush rfl ?_
  refine HX.newa (kd := 0) (N := 144) (n1 := 62) (k1 := 4) (z1 := 576) rfl rfl (by decide) rfl (Nat.le_of_ble_eq_true rfl) (Nat.le_of_ble_eq_true rfl) (Nat.le_of_ble_eq_true rfl) (Nat.le_of_ble_eq_true rfl) (Nat.le_of_ble_eq_true rfl) rfl rfl rfl rfl ?_
  refine HX.putf (fs' := [.null, .null, .ref 58, .ref 59, .ref 60, .ref 61, .null, .int 0]) rfl (Nat.le_of_ble_eq_true rfl) (Nat.le_of_ble_eq_true rfl) rfl rfl rfl rfl ?_
  refine G.aload_n rfl rfl ?_
  refine G.sipush rfl ?_
  refine HX.newa (kd := 0) (N := 144) (n1 := 63) (k1 := 5) (z1 := 720) rfl rfl (by decide) rfl (Nat.le_of_ble_eq_true rfl) (Nat.le_of_ble_eq_true rfl) (Nat.le_of_ble_eq_true rfl) (Nat.le_of_ble_eq_true rfl) (Nat.le_of_ble_eq_true rfl) rfl rfl rfl rfl ?_
  refine HX.putf (fs' := [.null, .null, .ref 58, .ref 59, .ref 60, .ref 61, .ref 62, .int 0]) rfl (Nat.le_of_ble_eq_true rfl) (Nat.le_of_ble_eq_true rfl) rfl rfl rfl rfl ?_
  refine G.aload_n rfl rfl ?_
  refine G.aload_n rfl rfl ?_
  refine HX.putf (fs' := [.ref 10, .null, .ref 58, .ref 59, .ref 60, .ref 61, .ref 62, .int 0]) rfl (Nat.le_of_ble_eq_true rfl) (Nat.le_of_ble_eq_true rfl) rfl rfl rfl rfl ?_
  refine G.aload_n rfl rfl ?_
  refine HX.new (cj := 9) (fs2 := [.null, .int 0, .int 0, .int 0, .int 0, .int 0]) (n1 := 64) (k1 := 6) (z1 := 726) rfl rfl dfX9 rfl (Nat.le_of_ble_eq_true rfl) (Nat.le_of_ble_eq_true rfl) (Nat.le_of_ble_eq_true rfl) rfl rfl rfl ?_
  refine G.dup rfl rfl ?_
  refine G.aload_n rfl rfl ?_
  refine HX.callI (N := 64) (k1 := 6) (z1 := 726) rfl (mk_63 _ am_up_at) rfl rfl oX9_init rfl (Nat.le_of_ble_eq_true rfl) (Nat.le_of_ble_eq_true rfl) (Nat.le_of_ble_eq_true rfl) (Nat.le_of_ble_eq_true rfl) (Nat.le_of_ble_eq_true rfl) rfl rfl ?_
  refine HX.putf (fs' := [.ref 10, .ref 63, .ref 58, .ref 59, .ref 60, .ref 61, .ref 62, .int 0]) rfl (Nat.le_of_ble_eq_true rfl) (Nat.le_of_ble_eq_true rfl) rfl rfl rfl rfl ?_
  exact HX.ret rfl rfl rfl
theorem mk_64 (h : am_H) (hh : h 64 = .inr (3, [.null, .null, .null, .int 0, .int 0])) : Call mX3_init 1 [.ref 64, .ref 10] h 65 2 17 (mkP h 64 67) := by
  refine am_Met kX3_init pX3_init (Nat.le_of_ble_eq_true rfl) ?_
  refine HX.enter (σ := am_S0) (ci := 3) (fs := [.null, .null, .null, .int 0, .int 0]) hh ?_
  refine G.aload_n rfl rfl ?_
  refine G.objI rfl hO1 hO2 (Nat.le_of_ble_eq_true rfl) (Nat.le_of_ble_eq_true rfl) ?_
  refine G.aload_n rfl rfl ?_
  refine G.bipush rfl ?_
  refine HX.newa (kd := 0) (N := 8) (n1 := 66) (k1 := 1) (z1 := 8) rfl rfl (by decide) rfl (Nat.le_of_ble_eq_true rfl) (Nat.le_of_ble_eq_true rfl) (Nat.le_of_ble_eq_true rfl) (Nat.le_of_ble_eq_true rfl) (Nat.le_of_ble_eq_true rfl) rfl rfl rfl rfl ?_
  refine HX.putf (fs' := [.null, .ref 65, .null, .int 0, .int 0]) rfl (Nat.le_of_ble_eq_true rfl) (Nat.le_of_ble_eq_true rfl) rfl rfl rfl rfl ?_
  refine G.aload_n rfl rfl ?_
  refine G.bipush rfl ?_
  refine HX.newa (kd := 0) (N := 9) (n1 := 67) (k1 := 2) (z1 := 17) rfl rfl (by decide) rfl (Nat.le_of_ble_eq_true rfl) (Nat.le_of_ble_eq_true rfl) (Nat.le_of_ble_eq_true rfl) (Nat.le_of_ble_eq_true rfl) (Nat.le_of_ble_eq_true rfl) rfl rfl rfl rfl ?_
  refine HX.putf (fs' := [.null, .ref 65, .ref 66, .int 0, .int 0]) rfl (Nat.le_of_ble_eq_true rfl) (Nat.le_of_ble_eq_true rfl) rfl rfl rfl rfl ?_
  refine G.aload_n rfl rfl ?_
  refine G.aload_n rfl rfl ?_
  refine HX.putf (fs' := [.ref 10, .ref 65, .ref 66, .int 0, .int 0]) rfl (Nat.le_of_ble_eq_true rfl) (Nat.le_of_ble_eq_true rfl) rfl rfl rfl rfl ?_
  exact HX.ret rfl rfl rfl
theorem mk_67 (h : am_H) (hh : h 67 = .inr (0, [.null, .int 0, .int 0, .int 0, .null, .int 0])) : Call mX0_init 1 [.ref 67, .ref 24] h 68 1 16 (mkP h 67 69) := by
  refine am_Met kX0_init pX0_init (Nat.le_of_ble_eq_true rfl) ?_
  refine HX.enter (σ := am_S0) (ci := 0) (fs := [.null, .int 0, .int 0, .int 0, .null, .int 0]) hh ?_
  refine G.aload_n rfl rfl ?_
  refine G.objI rfl hO1 hO2 (Nat.le_of_ble_eq_true rfl) (Nat.le_of_ble_eq_true rfl) ?_
  refine G.aload_n rfl rfl ?_
  refine G.bipush rfl ?_
  refine HX.newa (kd := 0) (N := 16) (n1 := 69) (k1 := 1) (z1 := 16) rfl rfl (by decide) rfl (Nat.le_of_ble_eq_true rfl) (Nat.le_of_ble_eq_true rfl) (Nat.le_of_ble_eq_true rfl) (Nat.le_of_ble_eq_true rfl) (Nat.le_of_ble_eq_true rfl) rfl rfl rfl rfl ?_
  refine HX.putf (fs' := [.null, .int 0, .int 0, .int 0, .ref 68, .int 0]) rfl (Nat.le_of_ble_eq_true rfl) (Nat.le_of_ble_eq_true rfl) rfl rfl rfl rfl ?_
  refine G.aload_n rfl rfl ?_
  refine G.aload_n rfl rfl ?_
  refine HX.putf (fs' := [.ref 24, .int 0, .int 0, .int 0, .ref 68, .int 0]) rfl (Nat.le_of_ble_eq_true rfl) (Nat.le_of_ble_eq_true rfl) rfl rfl rfl rfl ?_
  exact HX.ret rfl rfl rfl
theorem mk_0 (h : am_H) (hh : h 0 = .inr (11, [.null, .null, .null, .null, .null, .null, .null, .null, .null, .null, .null, .null, .null, .int 0])) : Call mX11_init 3 [.ref 0] h 1 68 3663 (mkP h 0 69) := by
  refine am_Met kX11_init pX11_init (Nat.le_of_ble_eq_true rfl) ?_
  refine HX.enter (σ := am_S0) (ci := 11) (fs := [.null, .null, .null, .null, .null, .null, .null, .null, .null, .null, .null, .null, .null, .int 0]) hh ?_
  refine G.aload_n rfl rfl ?_
  refine G.objI rfl hO1 hO2 (Nat.le_of_ble_eq_true rfl) (Nat.le_of_ble_eq_true rfl) ?_
  refine G.aload_n rfl rfl ?_
  refine HX.new (cj := 4) (fs2 := [.null, .null, .null]) (n1 := 2) (k1 := 1) (z1 := 3) rfl rfl dfX4 rfl (Nat.le_of_ble_eq_true rfl) (Nat.le_of_ble_eq_true rfl) (Nat.le_of_ble_eq_true rfl) rfl rfl rfl ?_
  refine G.dup rfl rfl ?_
  refine HX.callI (N := 5) (k1 := 4) (z1 := 339) rfl (mk_1 _ am_up_at) rfl rfl oX4_init rfl (Nat.le_of_ble_eq_true rfl) (Nat.le_of_ble_eq_true rfl) (Nat.le_of_ble_eq_true rfl) (Nat.le_of_ble_eq_true rfl) (Nat.le_of_ble_eq_true rfl) rfl rfl ?_
  refine HX.putf (fs' := [.ref 1, .null, .null, .null, .null, .null, .null, .null, .null, .null, .null, .null, .null, .int 0]) rfl (Nat.le_of_ble_eq_true rfl) (Nat.le_of_ble_eq_true rfl) rfl rfl rfl rfl ?_
  refine G.aload_n rfl rfl ?_
  refine HX.new (cj := 7) (fs2 := [.null, .int 0, .null, .null, .null, .int 0, .int 0, .int 0, .int 0, .int 0]) (n1 := 6) (k1 := 5) (z1 := 349) rfl rfl dfX7 rfl (Nat.le_of_ble_eq_true rfl) (Nat.le_of_ble_eq_true rfl) (Nat.le_of_ble_eq_true rfl) rfl rfl rfl ?_
  refine G.dup rfl rfl ?_
  refine HX.callI (N := 10) (k1 := 9) (z1 := 1952) rfl (mk_5 _ am_up_at) rfl rfl oX7_init rfl (Nat.le_of_ble_eq_true rfl) (Nat.le_of_ble_eq_true rfl) (Nat.le_of_ble_eq_true rfl) (Nat.le_of_ble_eq_true rfl) (Nat.le_of_ble_eq_true rfl) rfl rfl ?_
  refine HX.putf (fs' := [.ref 1, .ref 5, .null, .null, .null, .null, .null, .null, .null, .null, .null, .null, .null, .int 0]) rfl (Nat.le_of_ble_eq_true rfl) (Nat.le_of_ble_eq_true rfl) rfl rfl rfl rfl ?_
  refine G.aload_n rfl rfl ?_
  refine HX.new (cj := 8) (fs2 := [.int 0, .int 0, .null, .null, .null, .null, .null, .null]) (n1 := 11) (k1 := 10) (z1 := 1960) rfl rfl dfX8 rfl (Nat.le_of_ble_eq_true rfl) (Nat.le_of_ble_eq_true rfl) (Nat.le_of_ble_eq_true rfl) rfl rfl rfl ?_
  refine G.dup rfl rfl ?_
  refine HX.callI (N := 17) (k1 := 16) (z1 := 2104) rfl (mk_10 _ am_up_at) rfl rfl oX8_init rfl (Nat.le_of_ble_eq_true rfl) (Nat.le_of_ble_eq_true rfl) (Nat.le_of_ble_eq_true rfl) (Nat.le_of_ble_eq_true rfl) (Nat.le_of_ble_eq_true rfl) rfl rfl ?_
  refine HX.putf (fs' := [.ref 1, .ref 5, .ref 10, .null, .null, .null, .null, .null, .null, .null, .null, .null, .null, .int 0]) rfl (Nat.le_of_ble_eq_true rfl) (Nat.le_of_ble_eq_true rfl) rfl rfl rfl rfl ?_
  refine G.aload_n rfl rfl ?_
  refine HX.new (cj := 8) (fs2 := [.int 0, .int 0, .null, .null, .null, .null, .null, .null]) (n1 := 18) (k1 := 17) (z1 := 2112) rfl rfl dfX8 rfl (Nat.le_of_ble_eq_true rfl) (Nat.le_of_ble_eq_true rfl) (Nat.le_of_ble_eq_true rfl) rfl rfl rfl ?_
  refine G.dup rfl rfl ?_
  refine HX.callI (N := 24) (k1 := 23) (z1 := 2256) rfl (mk_17 _ am_up_at) rfl rfl oX8_init rfl (Nat.le_of_ble_eq_true rfl) (Nat.le_of_ble_eq_true rfl) (Nat.le_of_ble_eq_true rfl) (Nat.le_of_ble_eq_true rfl) (Nat.le_of_ble_eq_true rfl) rfl rfl ?_
  refine HX.putf (fs' := [.ref 1, .ref 5, .ref 10, .ref 17, .null, .null, .null, .null, .null, .null, .null, .null, .null, .int 0]) rfl (Nat.le_of_ble_eq_true rfl) (Nat.le_of_ble_eq_true rfl) rfl rfl rfl rfl ?_
  refine G.aload_n rfl rfl ?_
  refine HX.new (cj := 5) (fs2 := [.int 0, .null]) (n1 := 25) (k1 := 24) (z1 := 2258) rfl rfl dfX5 rfl (Nat.le_of_ble_eq_true rfl) (Nat.le_of_ble_eq_true rfl) (Nat.le_of_ble_eq_true rfl) rfl rfl rfl ?_
  refine G.dup rfl rfl ?_
  refine HX.callI (N := 26) (k1 := 25) (z1 := 2270) rfl (mk_24 _ am_up_at) rfl rfl oX5_init rfl (Nat.le_of_ble_eq_true rfl) (Nat.le_of_ble_eq_true rfl) (Nat.le_of_ble_eq_true rfl) (Nat.le_of_ble_eq_true rfl) (Nat.le_of_ble_eq_true rfl) rfl rfl ?_
  refine HX.putf (fs' := [.ref 1, .ref 5, .ref 10, .ref 17, .ref 24, .null, .null, .null, .null, .null, .null, .null, .null, .int 0]) rfl (Nat.le_of_ble_eq_true rfl) (Nat.le_of_ble_eq_true rfl) rfl rfl rfl rfl ?_
  refine G.aload_n rfl rfl ?_
  refine HX.new (cj := 5) (fs2 := [.int 0, .null]) (n1 := 27) (k1 := 26) (z1 := 2272) rfl rfl dfX5 rfl (Nat.le_of_ble_eq_true rfl) (Nat.le_of_ble_eq_true rfl) (Nat.le_of_ble_eq_true rfl) rfl rfl rfl ?_
  refine G.dup rfl rfl ?_
  refine HX.callI (N := 28) (k1 := 27) (z1 := 2284) rfl (mk_26 _ am_up_at) rfl rfl oX5_init rfl (Nat.le_of_ble_eq_true rfl) (Nat.le_of_ble_eq_true rfl) (Nat.le_of_ble_eq_true rfl) (Nat.le_of_ble_eq_true rfl) (Nat.le_of_ble_eq_true rfl) rfl rfl ?_
  refine HX.putf (fs' := [.ref 1, .ref 5, .ref 10, .ref 17, .ref 24, .ref 26, .null, .null, .null, .null, .null, .null, .null, .int 0]) rfl (Nat.le_of_ble_eq_true rfl) (Nat.le_of_ble_eq_true rfl) rfl rfl rfl rfl ?_
  refine G.aload_n rfl rfl ?_
  refine HX.new (cj := 2) (fs2 := [.null, .null, .int 0]) (n1 := 29) (k1 := 28) (z1 := 2287) rfl rfl dfX2 rfl (Nat.le_of_ble_eq_true rfl) (Nat.le_of_ble_eq_true rfl) (Nat.le_of_ble_eq_true rfl) rfl rfl rfl ?_
  refine G.dup rfl rfl ?_
  refine HX.callI (N := 38) (k1 := 37) (z1 := 2453) rfl (mk_28 _ am_up_at) rfl rfl oX2_init rfl (Nat.le_of_ble_eq_true rfl) (Nat.le_of_ble_eq_true rfl) (Nat.le_of_ble_eq_true rfl) (Nat.le_of_ble_eq_true rfl) (Nat.le_of_ble_eq_true rfl) rfl rfl ?_
  refine HX.putf (fs' := [.ref 1, .ref 5, .ref 10, .ref 17, .ref 24, .ref 26, .ref 28, .null, .null, .null, .null, .null, .null, .int 0]) rfl (Nat.le_of_ble_eq_true rfl) (Nat.le_of_ble_eq_true rfl) rfl rfl rfl rfl ?_
  refine G.aload_n rfl rfl ?_
  refine HX.new (cj := 2) (fs2 := [.null, .null, .int 0]) (n1 := 39) (k1 := 38) (z1 := 2456) rfl rfl dfX2 rfl (Nat.le_of_ble_eq_true rfl) (Nat.le_of_ble_eq_true rfl) (Nat.le_of_ble_eq_true rfl) rfl rfl rfl ?_
  refine G.dup rfl rfl ?_
  refine HX.callI (N := 48) (k1 := 47) (z1 := 2622) rfl (mk_38 _ am_up_at) rfl rfl oX2_init rfl (Nat.le_of_ble_eq_true rfl) (Nat.le_of_ble_eq_true rfl) (Nat.le_of_ble_eq_true rfl) (Nat.le_of_ble_eq_true rfl) (Nat.le_of_ble_eq_true rfl) rfl rfl ?_
  refine HX.putf (fs' := [.ref 1, .ref 5, .ref 10, .ref 17, .ref 24, .ref 26, .ref 28, .ref 38, .null, .null, .null, .null, .null, .int 0]) rfl (Nat.le_of_ble_eq_true rfl) (Nat.le_of_ble_eq_true rfl) rfl rfl rfl rfl ?_
  refine G.aload_n rfl rfl ?_
  refine HX.new (cj := 10) (fs2 := [.null, .null, .null]) (n1 := 49) (k1 := 48) (z1 := 2625) rfl rfl dfX10 rfl (Nat.le_of_ble_eq_true rfl) (Nat.le_of_ble_eq_true rfl) (Nat.le_of_ble_eq_true rfl) rfl rfl rfl ?_
  refine G.dup rfl rfl ?_
  refine G.aload_n rfl rfl ?_
  refine HX.getu (w := .ref 10) rfl (Nat.le_of_ble_eq_true rfl) (Nat.le_of_ble_eq_true rfl) rfl ?_
  refine G.aload_n rfl rfl ?_
  refine HX.getu (w := .ref 24) rfl (Nat.le_of_ble_eq_true rfl) (Nat.le_of_ble_eq_true rfl) rfl ?_
  refine HX.callI (N := 51) (k1 := 50) (z1 := 2637) rfl (mk_48 _ am_up_at) rfl rfl oX10_init rfl (Nat.le_of_ble_eq_true rfl) (Nat.le_of_ble_eq_true rfl) (Nat.le_of_ble_eq_true rfl) (Nat.le_of_ble_eq_true rfl) (Nat.le_of_ble_eq_true rfl) rfl rfl ?_
  refine HX.putf (fs' := [.ref 1, .ref 5, .ref 10, .ref 17, .ref 24, .ref 26, .ref 28, .ref 38, .ref 48, .null, .null, .null, .null, .int 0]) rfl (Nat.le_of_ble_eq_true rfl) (Nat.le_of_ble_eq_true rfl) rfl rfl rfl rfl ?_
  refine G.aload_n rfl rfl ?_
  refine HX.new (cj := 1) (fs2 := [.null, .null, .null, .null, .int 0, .null, .null, .int 0]) (n1 := 52) (k1 := 51) (z1 := 2645) rfl rfl dfX1 rfl (Nat.le_of_ble_eq_true rfl) (Nat.le_of_ble_eq_true rfl) (Nat.le_of_ble_eq_true rfl) rfl rfl rfl ?_
  refine G.dup rfl rfl ?_
  refine G.aload_n rfl rfl ?_
  refine HX.getu (w := .ref 10) rfl (Nat.le_of_ble_eq_true rfl) (Nat.le_of_ble_eq_true rfl) rfl ?_
  refine HX.callI (N := 57) (k1 := 56) (z1 := 2885) rfl (mk_51 _ am_up_at) rfl rfl oX1_init rfl (Nat.le_of_ble_eq_true rfl) (Nat.le_of_ble_eq_true rfl) (Nat.le_of_ble_eq_true rfl) (Nat.le_of_ble_eq_true rfl) (Nat.le_of_ble_eq_true rfl) rfl rfl ?_
  refine HX.putf (fs' := [.ref 1, .ref 5, .ref 10, .ref 17, .ref 24, .ref 26, .ref 28, .ref 38, .ref 48, .ref 51, .null, .null, .null, .int 0]) rfl (Nat.le_of_ble_eq_true rfl) (Nat.le_of_ble_eq_true rfl) rfl rfl rfl rfl ?_
  refine G.aload_n rfl rfl ?_
  refine HX.new (cj := 6) (fs2 := [.null, .null, .null, .null, .null, .null, .null, .int 0]) (n1 := 58) (k1 := 57) (z1 := 2893) rfl rfl dfX6 rfl (Nat.le_of_ble_eq_true rfl) (Nat.le_of_ble_eq_true rfl) (Nat.le_of_ble_eq_true rfl) rfl rfl rfl ?_
  refine G.dup rfl rfl ?_
  refine G.aload_n rfl rfl ?_
  refine HX.getu (w := .ref 10) rfl (Nat.le_of_ble_eq_true rfl) (Nat.le_of_ble_eq_true rfl) rfl ?_
  refine HX.callI (N := 64) (k1 := 63) (z1 := 3619) rfl (mk_57 _ am_up_at) rfl rfl oX6_init rfl (Nat.le_of_ble_eq_true rfl) (Nat.le_of_ble_eq_true rfl) (Nat.le_of_ble_eq_true rfl) (Nat.le_of_ble_eq_true rfl) (Nat.le_of_ble_eq_true rfl) rfl rfl ?_
  refine HX.putf (fs' := [.ref 1, .ref 5, .ref 10, .ref 17, .ref 24, .ref 26, .ref 28, .ref 38, .ref 48, .ref 51, .ref 57, .null, .null, .int 0]) rfl (Nat.le_of_ble_eq_true rfl) (Nat.le_of_ble_eq_true rfl) rfl rfl rfl rfl ?_
  refine G.aload_n rfl rfl ?_
  refine HX.new (cj := 3) (fs2 := [.null, .null, .null, .int 0, .int 0]) (n1 := 65) (k1 := 64) (z1 := 3624) rfl rfl dfX3 rfl (Nat.le_of_ble_eq_true rfl) (Nat.le_of_ble_eq_true rfl) (Nat.le_of_ble_eq_true rfl) rfl rfl rfl ?_
  refine G.dup rfl rfl ?_
  refine G.aload_n rfl rfl ?_
  refine HX.getu (w := .ref 10) rfl (Nat.le_of_ble_eq_true rfl) (Nat.le_of_ble_eq_true rfl) rfl ?_
  refine HX.callI (N := 67) (k1 := 66) (z1 := 3641) rfl (mk_64 _ am_up_at) rfl rfl oX3_init rfl (Nat.le_of_ble_eq_true rfl) (Nat.le_of_ble_eq_true rfl) (Nat.le_of_ble_eq_true rfl) (Nat.le_of_ble_eq_true rfl) (Nat.le_of_ble_eq_true rfl) rfl rfl ?_
  refine HX.putf (fs' := [.ref 1, .ref 5, .ref 10, .ref 17, .ref 24, .ref 26, .ref 28, .ref 38, .ref 48, .ref 51, .ref 57, .ref 64, .null, .int 0]) rfl (Nat.le_of_ble_eq_true rfl) (Nat.le_of_ble_eq_true rfl) rfl rfl rfl rfl ?_
  refine G.aload_n rfl rfl ?_
  refine HX.new (cj := 0) (fs2 := [.null, .int 0, .int 0, .int 0, .null, .int 0]) (n1 := 68) (k1 := 67) (z1 := 3647) rfl rfl dfX0 rfl (Nat.le_of_ble_eq_true rfl) (Nat.le_of_ble_eq_true rfl) (Nat.le_of_ble_eq_true rfl) rfl rfl rfl ?_
  refine G.dup rfl rfl ?_
  refine G.aload_n rfl rfl ?_
  refine HX.getu (w := .ref 24) rfl (Nat.le_of_ble_eq_true rfl) (Nat.le_of_ble_eq_true rfl) rfl ?_
  refine HX.callI (N := 69) (k1 := 68) (z1 := 3663) rfl (mk_67 _ am_up_at) rfl rfl oX0_init rfl (Nat.le_of_ble_eq_true rfl) (Nat.le_of_ble_eq_true rfl) (Nat.le_of_ble_eq_true rfl) (Nat.le_of_ble_eq_true rfl) (Nat.le_of_ble_eq_true rfl) rfl rfl ?_
  refine HX.putf (fs' := [.ref 1, .ref 5, .ref 10, .ref 17, .ref 24, .ref 26, .ref 28, .ref 38, .ref 48, .ref 51, .ref 57, .ref 64, .ref 67, .int 0]) rfl (Nat.le_of_ble_eq_true rfl) (Nat.le_of_ble_eq_true rfl) rfl rfl rfl rfl ?_
  exact HX.ret rfl rfl rfl
theorem mk_69 (h : am_H) (hh : h 69 = .inr (12, [.int 0, .int 0, .null, .null, .null, .null, .null, .int 0, .null, .null, .null, .int 0, .int 0, .int 0, .int 0, .int 0, .int 0, .int 0, .int 0, .int 0, .int 0, .int 0, .int 0, .int 0, .int 0, .int 0, .null, .null, .null, .null, .null, .null, .int 0, .null, .int 0, .int 0, .null, .null, .null, .null, .int 0])) : Call mX12_init 1 [.ref 69] h 70 19 2002 (mkP h 69 89) := by
  refine am_Met kX12_init pX12_init (Nat.le_of_ble_eq_true rfl) ?_
  refine HX.enter (σ := (am_s1 am_S0 70 (am_c8 0))) (ci := 12) (fs := [.int 0, .int 0, .null, .null, .null, .null, .null, .int 0, .null, .null, .null, .int 0, .int 0, .int 0, .int 0, .int 0, .int 0, .int 0, .int 0, .int 0, .int 0, .int 0, .int 0, .int 0, .int 0, .int 0, .null, .null, .null, .null, .null, .null, .int 0, .null, .int 0, .int 0, .null, .null, .null, .null, .int 0]) hh ?_
  refine G.aload_n rfl rfl ?_
  refine G.objI rfl hO1 hO2 (Nat.le_of_ble_eq_true rfl) (Nat.le_of_ble_eq_true rfl) ?_
  refine G.aload_n rfl rfl ?_
  refine G.bipush rfl ?_
  refine HX.newa (kd := 0) (N := 8) (n1 := 71) (k1 := 1) (z1 := 8) rfl rfl (by decide) rfl (Nat.le_of_ble_eq_true rfl) (Nat.le_of_ble_eq_true rfl) (Nat.le_of_ble_eq_true rfl) (Nat.le_of_ble_eq_true rfl) (Nat.le_of_ble_eq_true rfl) rfl rfl rfl rfl ?_
  refine G.dup rfl rfl ?_
  refine G.iconst rfl ?_
  refine G.iconst rfl ?_
  refine HX.iast (i := 0) (f' := am_c8 1) rfl (Nat.le_of_ble_eq_true rfl) (Nat.le_of_ble_eq_true rfl) rfl (by rw [am_in]; decide) rfl rfl ?_
  refine G.dup rfl rfl ?_
  refine G.iconst rfl ?_
  refine G.iconst rfl ?_
  refine HX.iast (i := 1) (f' := am_c8 2) rfl (Nat.le_of_ble_eq_true rfl) (Nat.le_of_ble_eq_true rfl) rfl (by rw [am_in]; decide) rfl rfl ?_
  refine G.dup rfl rfl ?_
  refine G.iconst rfl ?_
  refine G.iconst rfl ?_
  refine HX.iast (i := 2) (f' := am_c8 3) rfl (Nat.le_of_ble_eq_true rfl) (Nat.le_of_ble_eq_true rfl) rfl (by rw [am_in]; decide) rfl rfl ?_
  refine G.dup rfl rfl ?_
  refine G.iconst rfl ?_
  refine G.iconst rfl ?_
  refine HX.iast (i := 3) (f' := am_c8 4) rfl (Nat.le_of_ble_eq_true rfl) (Nat.le_of_ble_eq_true rfl) rfl (by rw [am_in]; decide) rfl rfl ?_
  refine G.dup rfl rfl ?_
  refine G.iconst rfl ?_
  refine G.iconst rfl ?_
  refine HX.iast (i := 4) (f' := am_c8 5) rfl (Nat.le_of_ble_eq_true rfl) (Nat.le_of_ble_eq_true rfl) rfl (by rw [am_in]; decide) rfl rfl ?_
  refine G.dup rfl rfl ?_
  refine G.iconst rfl ?_
  refine G.iconst rfl ?_
  refine HX.iast (i := 5) (f' := am_c8 6) rfl (Nat.le_of_ble_eq_true rfl) (Nat.le_of_ble_eq_true rfl) rfl (by rw [am_in]; decide) rfl rfl ?_
  refine G.dup rfl rfl ?_
  refine G.bipush rfl ?_
  refine G.iconst rfl ?_
  refine HX.iast (i := 6) (f' := am_c8 7) rfl (Nat.le_of_ble_eq_true rfl) (Nat.le_of_ble_eq_true rfl) rfl (by rw [am_in]; decide) rfl rfl ?_
  refine G.dup rfl rfl ?_
  refine G.bipush rfl ?_
  refine G.iconst rfl ?_
  refine HX.iast (i := 7) (f' := am_c8 8) rfl (Nat.le_of_ble_eq_true rfl) (Nat.le_of_ble_eq_true rfl) rfl (by rw [am_in]; decide) rfl rfl ?_
  refine HX.same (σ' := am_S0) (am_s1_self am_S0 70) ?_
  refine HX.putf (fs' := [.int 0, .int 0, .ref 70, .null, .null, .null, .null, .int 0, .null, .null, .null, .int 0, .int 0, .int 0, .int 0, .int 0, .int 0, .int 0, .int 0, .int 0, .int 0, .int 0, .int 0, .int 0, .int 0, .int 0, .null, .null, .null, .null, .null, .null, .int 0, .null, .int 0, .int 0, .null, .null, .null, .null, .int 0]) rfl (Nat.le_of_ble_eq_true rfl) (Nat.le_of_ble_eq_true rfl) rfl rfl rfl rfl ?_
  refine G.aload_n rfl rfl ?_
  refine G.bipush rfl ?_
  refine HX.newa (kd := 0) (N := 8) (n1 := 72) (k1 := 2) (z1 := 16) rfl rfl (by decide) rfl (Nat.le_of_ble_eq_true rfl) (Nat.le_of_ble_eq_true rfl) (Nat.le_of_ble_eq_true rfl) (Nat.le_of_ble_eq_true rfl) (Nat.le_of_ble_eq_true rfl) rfl rfl rfl rfl ?_
  refine HX.putf (fs' := [.int 0, .int 0, .ref 70, .ref 71, .null, .null, .null, .int 0, .null, .null, .null, .int 0, .int 0, .int 0, .int 0, .int 0, .int 0, .int 0, .int 0, .int 0, .int 0, .int 0, .int 0, .int 0, .int 0, .int 0, .null, .null, .null, .null, .null, .null, .int 0, .null, .int 0, .int 0, .null, .null, .null, .null, .int 0]) rfl (Nat.le_of_ble_eq_true rfl) (Nat.le_of_ble_eq_true rfl) rfl rfl rfl rfl ?_
  refine G.aload_n rfl rfl ?_
  refine G.sipush rfl ?_
  refine HX.newa (kd := 0) (N := 320) (n1 := 73) (k1 := 3) (z1 := 336) rfl rfl (by decide) rfl (Nat.le_of_ble_eq_true rfl) (Nat.le_of_ble_eq_true rfl) (Nat.le_of_ble_eq_true rfl) (Nat.le_of_ble_eq_true rfl) (Nat.le_of_ble_eq_true rfl) rfl rfl rfl rfl ?_
  refine HX.putf (fs' := [.int 0, .int 0, .ref 70, .ref 71, .ref 72, .null, .null, .int 0, .null, .null, .null, .int 0, .int 0, .int 0, .int 0, .int 0, .int 0, .int 0, .int 0, .int 0, .int 0, .int 0, .int 0, .int 0, .int 0, .int 0, .null, .null, .null, .null, .null, .null, .int 0, .null, .int 0, .int 0, .null, .null, .null, .null, .int 0]) rfl (Nat.le_of_ble_eq_true rfl) (Nat.le_of_ble_eq_true rfl) rfl rfl rfl rfl ?_
  refine G.aload_n rfl rfl ?_
  refine G.bipush rfl ?_
  refine HX.newa (kd := 0) (N := 122) (n1 := 74) (k1 := 4) (z1 := 458) rfl rfl (by decide) rfl (Nat.le_of_ble_eq_true rfl) (Nat.le_of_ble_eq_true rfl) (Nat.le_of_ble_eq_true rfl) (Nat.le_of_ble_eq_true rfl) (Nat.le_of_ble_eq_true rfl) rfl rfl rfl rfl ?_
  refine HX.putf (fs' := [.int 0, .int 0, .ref 70, .ref 71, .ref 72, .ref 73, .null, .int 0, .null, .null, .null, .int 0, .int 0, .int 0, .int 0, .int 0, .int 0, .int 0, .int 0, .int 0, .int 0, .int 0, .int 0, .int 0, .int 0, .int 0, .null, .null, .null, .null, .null, .null, .int 0, .null, .int 0, .int 0, .null, .null, .null, .null, .int 0]) rfl (Nat.le_of_ble_eq_true rfl) (Nat.le_of_ble_eq_true rfl) rfl rfl rfl rfl ?_
  refine G.aload_n rfl rfl ?_
  refine G.bipush rfl ?_
  refine HX.newa (kd := 0) (N := 122) (n1 := 75) (k1 := 5) (z1 := 580) rfl rfl (by decide) rfl (Nat.le_of_ble_eq_true rfl) (Nat.le_of_ble_eq_true rfl) (Nat.le_of_ble_eq_true rfl) (Nat.le_of_ble_eq_true rfl) (Nat.le_of_ble_eq_true rfl) rfl rfl rfl rfl ?_
  refine HX.putf (fs' := [.int 0, .int 0, .ref 70, .ref 71, .ref 72, .ref 73, .ref 74, .int 0, .null, .null, .null, .int 0, .int 0, .int 0, .int 0, .int 0, .int 0, .int 0, .int 0, .int 0, .int 0, .int 0, .int 0, .int 0, .int 0, .int 0, .null, .null, .null, .null, .null, .null, .int 0, .null, .int 0, .int 0, .null, .null, .null, .null, .int 0]) rfl (Nat.le_of_ble_eq_true rfl) (Nat.le_of_ble_eq_true rfl) rfl rfl rfl rfl ?_
  refine G.aload_n rfl rfl ?_
  refine G.bipush rfl ?_
  refine HX.newa (kd := 0) (N := 13) (n1 := 76) (k1 := 6) (z1 := 593) rfl rfl (by decide) rfl (Nat.le_of_ble_eq_true rfl) (Nat.le_of_ble_eq_true rfl) (Nat.le_of_ble_eq_true rfl) (Nat.le_of_ble_eq_true rfl) (Nat.le_of_ble_eq_true rfl) rfl rfl rfl rfl ?_
  refine HX.putf (fs' := [.int 0, .int 0, .ref 70, .ref 71, .ref 72, .ref 73, .ref 74, .int 0, .ref 75, .null, .null, .int 0, .int 0, .int 0, .int 0, .int 0, .int 0, .int 0, .int 0, .int 0, .int 0, .int 0, .int 0, .int 0, .int 0, .int 0, .null, .null, .null, .null, .null, .null, .int 0, .null, .int 0, .int 0, .null, .null, .null, .null, .int 0]) rfl (Nat.le_of_ble_eq_true rfl) (Nat.le_of_ble_eq_true rfl) rfl rfl rfl rfl ?_
  refine G.aload_n rfl rfl ?_
  refine G.bipush rfl ?_
  refine HX.newa (kd := 0) (N := 13) (n1 := 77) (k1 := 7) (z1 := 606) rfl rfl (by decide) rfl (Nat.le_of_ble_eq_true rfl) (Nat.le_of_ble_eq_true rfl) (Nat.le_of_ble_eq_true rfl) (Nat.le_of_ble_eq_true rfl) (Nat.le_of_ble_eq_true rfl) rfl rfl rfl rfl ?_
  refine HX.putf (fs' := [.int 0, .int 0, .ref 70, .ref 71, .ref 72, .ref 73, .ref 74, .int 0, .ref 75, .ref 76, .null, .int 0, .int 0, .int 0, .int 0, .int 0, .int 0, .int 0, .int 0, .int 0, .int 0, .int 0, .int 0, .int 0, .int 0, .int 0, .null, .null, .null, .null, .null, .null, .int 0, .null, .int 0, .int 0, .null, .null, .null, .null, .int 0]) rfl (Nat.le_of_ble_eq_true rfl) (Nat.le_of_ble_eq_true rfl) rfl rfl rfl rfl ?_
  refine G.aload_n rfl rfl ?_
  refine G.sipush rfl ?_
  refine HX.newa (kd := 0) (N := 400) (n1 := 78) (k1 := 8) (z1 := 1006) rfl rfl (by decide) rfl (Nat.le_of_ble_eq_true rfl) (Nat.le_of_ble_eq_true rfl) (Nat.le_of_ble_eq_true rfl) (Nat.le_of_ble_eq_true rfl) (Nat.le_of_ble_eq_true rfl) rfl rfl rfl rfl ?_
  refine HX.putf (fs' := [.int 0, .int 0, .ref 70, .ref 71, .ref 72, .ref 73, .ref 74, .int 0, .ref 75, .ref 76, .ref 77, .int 0, .int 0, .int 0, .int 0, .int 0, .int 0, .int 0, .int 0, .int 0, .int 0, .int 0, .int 0, .int 0, .int 0, .int 0, .null, .null, .null, .null, .null, .null, .int 0, .null, .int 0, .int 0, .null, .null, .null, .null, .int 0]) rfl (Nat.le_of_ble_eq_true rfl) (Nat.le_of_ble_eq_true rfl) rfl rfl rfl rfl ?_
  refine G.aload_n rfl rfl ?_
  refine G.bipush rfl ?_
  refine HX.newa (kd := 0) (N := 12) (n1 := 79) (k1 := 9) (z1 := 1018) rfl rfl (by decide) rfl (Nat.le_of_ble_eq_true rfl) (Nat.le_of_ble_eq_true rfl) (Nat.le_of_ble_eq_true rfl) (Nat.le_of_ble_eq_true rfl) (Nat.le_of_ble_eq_true rfl) rfl rfl rfl rfl ?_
  refine HX.putf (fs' := [.int 0, .int 0, .ref 70, .ref 71, .ref 72, .ref 73, .ref 74, .int 0, .ref 75, .ref 76, .ref 77, .int 0, .int 0, .int 0, .int 0, .int 0, .int 0, .int 0, .int 0, .int 0, .int 0, .int 0, .int 0, .int 0, .int 0, .int 0, .ref 78, .null, .null, .null, .null, .null, .int 0, .null, .int 0, .int 0, .null, .null, .null, .null, .int 0]) rfl (Nat.le_of_ble_eq_true rfl) (Nat.le_of_ble_eq_true rfl) rfl rfl rfl rfl ?_
  refine G.aload_n rfl rfl ?_
  refine G.bipush rfl ?_
  refine HX.newa (kd := 0) (N := 12) (n1 := 80) (k1 := 10) (z1 := 1030) rfl rfl (by decide) rfl (Nat.le_of_ble_eq_true rfl) (Nat.le_of_ble_eq_true rfl) (Nat.le_of_ble_eq_true rfl) (Nat.le_of_ble_eq_true rfl) (Nat.le_of_ble_eq_true rfl) rfl rfl rfl rfl ?_
  refine HX.putf (fs' := [.int 0, .int 0, .ref 70, .ref 71, .ref 72, .ref 73, .ref 74, .int 0, .ref 75, .ref 76, .ref 77, .int 0, .int 0, .int 0, .int 0, .int 0, .int 0, .int 0, .int 0, .int 0, .int 0, .int 0, .int 0, .int 0, .int 0, .int 0, .ref 78, .ref 79, .null, .null, .null, .null, .int 0, .null, .int 0, .int 0, .null, .null, .null, .null, .int 0]) rfl (Nat.le_of_ble_eq_true rfl) (Nat.le_of_ble_eq_true rfl) rfl rfl rfl rfl ?_
  refine G.aload_n rfl rfl ?_
  refine G.sipush rfl ?_
  refine HX.newa (kd := 0) (N := 168) (n1 := 81) (k1 := 11) (z1 := 1198) rfl rfl (by decide) rfl (Nat.le_of_ble_eq_true rfl) (Nat.le_of_ble_eq_true rfl) (Nat.le_of_ble_eq_true rfl) (Nat.le_of_ble_eq_true rfl) (Nat.le_of_ble_eq_true rfl) rfl rfl rfl rfl ?_
  refine HX.putf (fs' := [.int 0, .int 0, .ref 70, .ref 71, .ref 72, .ref 73, .ref 74, .int 0, .ref 75, .ref 76, .ref 77, .int 0, .int 0, .int 0, .int 0, .int 0, .int 0, .int 0, .int 0, .int 0, .int 0, .int 0, .int 0, .int 0, .int 0, .int 0, .ref 78, .ref 79, .ref 80, .null, .null, .null, .int 0, .null, .int 0, .int 0, .null, .null, .null, .null, .int 0]) rfl (Nat.le_of_ble_eq_true rfl) (Nat.le_of_ble_eq_true rfl) rfl rfl rfl rfl ?_
  refine G.aload_n rfl rfl ?_
  refine G.sipush rfl ?_
  refine HX.newa (kd := 0) (N := 168) (n1 := 82) (k1 := 12) (z1 := 1366) rfl rfl (by decide) rfl (Nat.le_of_ble_eq_true rfl) (Nat.le_of_ble_eq_true rfl) (Nat.le_of_ble_eq_true rfl) (Nat.le_of_ble_eq_true rfl) (Nat.le_of_ble_eq_true rfl) rfl rfl rfl rfl ?_
  refine HX.putf (fs' := [.int 0, .int 0, .ref 70, .ref 71, .ref 72, .ref 73, .ref 74, .int 0, .ref 75, .ref 76, .ref 77, .int 0, .int 0, .int 0, .int 0, .int 0, .int 0, .int 0, .int 0, .int 0, .int 0, .int 0, .int 0, .int 0, .int 0, .int 0, .ref 78, .ref 79, .ref 80, .ref 81, .null, .null, .int 0, .null, .int 0, .int 0, .null, .null, .null, .null, .int 0]) rfl (Nat.le_of_ble_eq_true rfl) (Nat.le_of_ble_eq_true rfl) rfl rfl rfl rfl ?_
  refine G.aload_n rfl rfl ?_
  refine G.sipush rfl ?_
  refine HX.newa (kd := 0) (N := 168) (n1 := 83) (k1 := 13) (z1 := 1534) rfl rfl (by decide) rfl (Nat.le_of_ble_eq_true rfl) (Nat.le_of_ble_eq_true rfl) (Nat.le_of_ble_eq_true rfl) (Nat.le_of_ble_eq_true rfl) (Nat.le_of_ble_eq_true rfl) rfl rfl rfl rfl ?_
  refine HX.putf (fs' := [.int 0, .int 0, .ref 70, .ref 71, .ref 72, .ref 73, .ref 74, .int 0, .ref 75, .ref 76, .ref 77, .int 0, .int 0, .int 0, .int 0, .int 0, .int 0, .int 0, .int 0, .int 0, .int 0, .int 0, .int 0, .int 0, .int 0, .int 0, .ref 78, .ref 79, .ref 80, .ref 81, .ref 82, .null, .int 0, .null, .int 0, .int 0, .null, .null, .null, .null, .int 0]) rfl (Nat.le_of_ble_eq_true rfl) (Nat.le_of_ble_eq_true rfl) rfl rfl rfl rfl ?_
  refine G.aload_n rfl rfl ?_
  refine G.sipush rfl ?_
  refine HX.newa (kd := 0) (N := 168) (n1 := 84) (k1 := 14) (z1 := 1702) rfl rfl (by decide) rfl (Nat.le_of_ble_eq_true rfl) (Nat.le_of_ble_eq_true rfl) (Nat.le_of_ble_eq_true rfl) (Nat.le_of_ble_eq_true rfl) (Nat.le_of_ble_eq_true rfl) rfl rfl rfl rfl ?_
  refine HX.putf (fs' := [.int 0, .int 0, .ref 70, .ref 71, .ref 72, .ref 73, .ref 74, .int 0, .ref 75, .ref 76, .ref 77, .int 0, .int 0, .int 0, .int 0, .int 0, .int 0, .int 0, .int 0, .int 0, .int 0, .int 0, .int 0, .int 0, .int 0, .int 0, .ref 78, .ref 79, .ref 80, .ref 81, .ref 82, .ref 83, .int 0, .null, .int 0, .int 0, .null, .null, .null, .null, .int 0]) rfl (Nat.le_of_ble_eq_true rfl) (Nat.le_of_ble_eq_true rfl) rfl rfl rfl rfl ?_
  refine G.aload_n rfl rfl ?_
  refine G.bipush rfl ?_
  refine HX.newa (kd := 0) (N := 12) (n1 := 85) (k1 := 15) (z1 := 1714) rfl rfl (by decide) rfl (Nat.le_of_ble_eq_true rfl) (Nat.le_of_ble_eq_true rfl) (Nat.le_of_ble_eq_true rfl) (Nat.le_of_ble_eq_true rfl) (Nat.le_of_ble_eq_true rfl) rfl rfl rfl rfl ?_
  refine HX.putf (fs' := [.int 0, .int 0, .ref 70, .ref 71, .ref 72, .ref 73, .ref 74, .int 0, .ref 75, .ref 76, .ref 77, .int 0, .int 0, .int 0, .int 0, .int 0, .int 0, .int 0, .int 0, .int 0, .int 0, .int 0, .int 0, .int 0, .int 0, .int 0, .ref 78, .ref 79, .ref 80, .ref 81, .ref 82, .ref 83, .int 0, .ref 84, .int 0, .int 0, .null, .null, .null, .null, .int 0]) rfl (Nat.le_of_ble_eq_true rfl) (Nat.le_of_ble_eq_true rfl) rfl rfl rfl rfl ?_
  refine G.aload_n rfl rfl ?_
  refine G.iconst rfl ?_
  refine HX.newa (kd := 1) (N := 2) (n1 := 86) (k1 := 16) (z1 := 1716) rfl rfl (by decide) rfl (Nat.le_of_ble_eq_true rfl) (Nat.le_of_ble_eq_true rfl) (Nat.le_of_ble_eq_true rfl) (Nat.le_of_ble_eq_true rfl) (Nat.le_of_ble_eq_true rfl) rfl rfl rfl rfl ?_
  refine HX.putf (fs' := [.int 0, .int 0, .ref 70, .ref 71, .ref 72, .ref 73, .ref 74, .int 0, .ref 75, .ref 76, .ref 77, .int 0, .int 0, .int 0, .int 0, .int 0, .int 0, .int 0, .int 0, .int 0, .int 0, .int 0, .int 0, .int 0, .int 0, .int 0, .ref 78, .ref 79, .ref 80, .ref 81, .ref 82, .ref 83, .int 0, .ref 84, .int 0, .int 0, .ref 85, .null, .null, .null, .int 0]) rfl (Nat.le_of_ble_eq_true rfl) (Nat.le_of_ble_eq_true rfl) rfl rfl rfl rfl ?_
  refine G.aload_n rfl rfl ?_
  refine G.sipush rfl ?_
  refine HX.newa (kd := 0) (N := 244) (n1 := 87) (k1 := 17) (z1 := 1960) rfl rfl (by decide) rfl (Nat.le_of_ble_eq_true rfl) (Nat.le_of_ble_eq_true rfl) (Nat.le_of_ble_eq_true rfl) (Nat.le_of_ble_eq_true rfl) (Nat.le_of_ble_eq_true rfl) rfl rfl rfl rfl ?_
  refine HX.putf (fs' := [.int 0, .int 0, .ref 70, .ref 71, .ref 72, .ref 73, .ref 74, .int 0, .ref 75, .ref 76, .ref 77, .int 0, .int 0, .int 0, .int 0, .int 0, .int 0, .int 0, .int 0, .int 0, .int 0, .int 0, .int 0, .int 0, .int 0, .int 0, .ref 78, .ref 79, .ref 80, .ref 81, .ref 82, .ref 83, .int 0, .ref 84, .int 0, .int 0, .ref 85, .ref 86, .null, .null, .int 0]) rfl (Nat.le_of_ble_eq_true rfl) (Nat.le_of_ble_eq_true rfl) rfl rfl rfl rfl ?_
  refine G.aload_n rfl rfl ?_
  refine G.bipush rfl ?_
  refine HX.newa (kd := 0) (N := 26) (n1 := 88) (k1 := 18) (z1 := 1986) rfl rfl (by decide) rfl (Nat.le_of_ble_eq_true rfl) (Nat.le_of_ble_eq_true rfl) (Nat.le_of_ble_eq_true rfl) (Nat.le_of_ble_eq_true rfl) (Nat.le_of_ble_eq_true rfl) rfl rfl rfl rfl ?_
  refine HX.putf (fs' := [.int 0, .int 0, .ref 70, .ref 71, .ref 72, .ref 73, .ref 74, .int 0, .ref 75, .ref 76, .ref 77, .int 0, .int 0, .int 0, .int 0, .int 0, .int 0, .int 0, .int 0, .int 0, .int 0, .int 0, .int 0, .int 0, .int 0, .int 0, .ref 78, .ref 79, .ref 80, .ref 81, .ref 82, .ref 83, .int 0, .ref 84, .int 0, .int 0, .ref 85, .ref 86, .ref 87, .null, .int 0]) rfl (Nat.le_of_ble_eq_true rfl) (Nat.le_of_ble_eq_true rfl) rfl rfl rfl rfl ?_
  refine G.aload_n rfl rfl ?_
  refine G.bipush rfl ?_
  refine HX.newa (kd := 0) (N := 16) (n1 := 89) (k1 := 19) (z1 := 2002) rfl rfl (by decide) rfl (Nat.le_of_ble_eq_true rfl) (Nat.le_of_ble_eq_true rfl) (Nat.le_of_ble_eq_true rfl) (Nat.le_of_ble_eq_true rfl) (Nat.le_of_ble_eq_true rfl) rfl rfl rfl rfl ?_
  refine HX.putf (fs' := [.int 0, .int 0, .ref 70, .ref 71, .ref 72, .ref 73, .ref 74, .int 0, .ref 75, .ref 76, .ref 77, .int 0, .int 0, .int 0, .int 0, .int 0, .int 0, .int 0, .int 0, .int 0, .int 0, .int 0, .int 0, .int 0, .int 0, .int 0, .ref 78, .ref 79, .ref 80, .ref 81, .ref 82, .ref 83, .int 0, .ref 84, .int 0, .int 0, .ref 85, .ref 86, .ref 87, .ref 88, .int 0]) rfl (Nat.le_of_ble_eq_true rfl) (Nat.le_of_ble_eq_true rfl) rfl rfl rfl rfl ?_
  exact HX.ret rfl rfl rfl
