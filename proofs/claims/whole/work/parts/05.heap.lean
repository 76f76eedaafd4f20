/-! cells, calls, returns -/
def am_ty (ci : Nat) : Nat → FieldType := match ci with
  | 0 => tyX0
  | 1 => tyX1
  | 2 => tyX2
  | 3 => tyX3
  | 4 => tyX4
  | 5 => tyX5
  | 6 => tyX6
  | 7 => tyX7
  | 8 => tyX8
  | 9 => tyX9
  | 10 => tyX10
  | 11 => tyX11
  | _ => tyX12
theorem am_cl {ci : Nat} {q : vw_C} (h : vwCl[ci]? = some q) : (∀ w ∈ u_ws q.1 q.2.1 q.2.2, w ∈ lw_T) ∧ (∀ k, k < q.2.2 → parseFieldDescriptor (q.2.1 k).2.2.1 = some (am_ty ci k)) ∧ ∀ a, a < q.2.2 → ∀ b, b < q.2.2 → a ≠ b → (q.2.1 a).2.1 ≠ (q.2.1 b).2.1 := by
  match ci, h with
  | 0, h => cases h; exact ⟨inX0, tyX0_ok, nmX0⟩
  | 1, h => cases h; exact ⟨inX1, tyX1_ok, nmX1⟩
  | 2, h => cases h; exact ⟨inX2, tyX2_ok, nmX2⟩
  | 3, h => cases h; exact ⟨inX3, tyX3_ok, nmX3⟩
  | 4, h => cases h; exact ⟨inX4, tyX4_ok, nmX4⟩
  | 5, h => cases h; exact ⟨inX5, tyX5_ok, nmX5⟩
  | 6, h => cases h; exact ⟨inX6, tyX6_ok, nmX6⟩
  | 7, h => cases h; exact ⟨inX7, tyX7_ok, nmX7⟩
  | 8, h => cases h; exact ⟨inX8, tyX8_ok, nmX8⟩
  | 9, h => cases h; exact ⟨inX9, tyX9_ok, nmX9⟩
  | 10, h => cases h; exact ⟨inX10, tyX10_ok, nmX10⟩
  | 11, h => cases h; exact ⟨inX11, tyX11_ok, nmX11⟩
  | 12, h => cases h; exact ⟨inX12, tyX12_ok, nmX12⟩
  | k + 13, h => simp [vwCl] at h
theorem am_fld_spec {cl : String} {own idx ci k i : Nat} {put : Bool} (hc : am_cn own = cl) (h : am_fld own idx ci k i put = true) : ∃ q : vw_C, vwCl[ci]? = some q ∧ k < q.2.2 ∧ Cond.fieldLink cl idx (q.2.1 k).1 (q.2.1 k).2.1 (q.2.1 k).2.2.1 ∈ lw_T ∧ (put = true → (q.2.1 k).2.2.2 = true → ci = own) := by
  unfold am_fld at h
  rw [Bool.and_eq_true, decide_eq_true_eq] at h
  obtain ⟨h0, h⟩ := h
  split at h
  · rename_i q hq
    rw [Bool.and_eq_true, decide_eq_true_eq] at h
    subst hc
    have h3 := am_pw_T h0 rfl
    have h4 : vwCl.getD ci (RX0, TX0, 6) = q := by rw [List.getD_eq_getElem?_getD, hq]; rfl
    have h5 : Cond.fieldLink (am_cn own) idx ((vwCl.getD ci (RX0, TX0, 6)).2.1 k).1 ((vwCl.getD ci (RX0, TX0, 6)).2.1 k).2.1 ((vwCl.getD ci (RX0, TX0, 6)).2.1 k).2.2.1 ∈ lw_T := h3
    rw [h4] at h5
    refine ⟨q, hq, h.1, h5, fun hp hf => ?_⟩
    have h2 := h.2
    rw [hp, hf] at h2
    simpa using h2
  · cases h
theorem am_cn_cl {ci : Nat} {q : vw_C} (h : vwCl[ci]? = some q) : q.1 = am_cn ci ∧ ∀ k, k < q.2.2 → (q.2.1 k).1 = q.1 := by
  match ci, h with
  | 0, h => cases h; exact ⟨rfl, by decide +kernel⟩
  | 1, h => cases h; exact ⟨rfl, by decide +kernel⟩
  | 2, h => cases h; exact ⟨rfl, by decide +kernel⟩
  | 3, h => cases h; exact ⟨rfl, by decide +kernel⟩
  | 4, h => cases h; exact ⟨rfl, by decide +kernel⟩
  | 5, h => cases h; exact ⟨rfl, by decide +kernel⟩
  | 6, h => cases h; exact ⟨rfl, by decide +kernel⟩
  | 7, h => cases h; exact ⟨rfl, by decide +kernel⟩
  | 8, h => cases h; exact ⟨rfl, by decide +kernel⟩
  | 9, h => cases h; exact ⟨rfl, by decide +kernel⟩
  | 10, h => cases h; exact ⟨rfl, by decide +kernel⟩
  | 11, h => cases h; exact ⟨rfl, by decide +kernel⟩
  | 12, h => cases h; exact ⟨rfl, by decide +kernel⟩
  | k + 13, h => simp [vwCl] at h
def am_up (h : am_H) (q : Nat) (c : am_C) : am_H := fun j => if j = q then c else h j
theorem am_Z.ext {as as' : Nat → Nat} {n n' : Nat} (hE : am_E as as' n n') {A : Nat → Prop} {s : State} {H : Heap} (h : am_Z as A s H) : am_Z as' A s H := by
  obtain ⟨h1, h2, h3, h4, h5, h6, h7⟩ := h
  have e0 : as' 3000 = as 3000 := hE.2 _ (Or.inr (by omega))
  have e1 : as' 3001 = as 3001 := hE.2 _ (Or.inr (by omega))
  have e2 : (fun i => as' (1000 + i)) = (fun i => as (1000 + i)) := funext fun i => hE.2 _ (Or.inr (by omega))
  have e3 : (fun i => as' (2000 + i)) = (fun i => as (2000 + i)) := funext fun i => hE.2 _ (Or.inr (by omega))
  refine ⟨by rw [e0]; exact h1, by rw [e0]; exact h2, h3, by rw [e1]; exact h4, by rw [e2, e3]; exact h5, fun i hi => ?_, h7⟩
  rw [show as' (1000 + i) = as (1000 + i) from hE.2 _ (Or.inr (by omega))]
  exact h6 i hi
theorem am_Z.same {as : Nat → Nat} {A : Nat → Prop} {s U : State} {H : Heap} (hv : s.vm = U.vm) (h : am_Z as A s H) : am_Z as A U H := by
  obtain ⟨h1, h2, h3, h4, h5, h6, h7⟩ := h
  have ha : s.vm.Alike U.vm := by rw [hv]; exact Vm.Alike.refl _
  exact ⟨h1.moved ha, h2.moved ha, h3.moved ha, h4.imp (fun h => h.moved ha) (fun h => h.moved ha), h5.moved ha, fun i hi => (h6 i hi).same hv.symm, fun w hw hn => am_Nw.same hn hv (h7 w hw hn)⟩
theorem am_W.moved {D : va_G} {as : Nat → Nat} {n : Nat} {h : am_H} {A : Nat → Prop} {u U : State} {H : Heap} (hvm : u.vm.Alike U.vm) (w : am_W D as n h A u H) : am_W D as n h A U H := by
  obtain ⟨ws, tys, w1, w2, w3, w4, w5⟩ := w
  exact ⟨ws, tys, w1, w2, w3, w4.moved hvm, w5⟩
theorem am_W.weaken {D : va_G} {as : Nat → Nat} {n : Nat} {h : am_H} {A B : Nat → Prop} {U : State} {H : Heap} (hAB : ∀ q, A q → B q) (w : am_W D as n h A U H) : am_W D as n h B U H := by
  obtain ⟨ws, tys, w1, w2, w3, w4, w5⟩ := w
  exact ⟨ws, tys, w1, w2, w3, w4, w5.weaken (fun _ _ _ h => hAB _ h)⟩
theorem am_W.into {D : va_G} {as : Nat → Nat} {n : Nat} {h : am_H} {A B : Nat → Prop} {U : State} {H : Heap} (hB : ∀ k, k < n → B (as k)) (w : am_W D as n h A U H) : am_W D as n h B U H := by
  obtain ⟨ws, tys, w1, w2, w3, w4, w5⟩ := w
  refine ⟨ws, tys, w1, w2, w3, w4, w5.1, fun k q hk => ?_⟩
  have hl : k < n := by rw [← w1]; exact (List.getElem?_eq_some_iff.mp hk).1
  obtain ⟨e, h1, -⟩ := w2 k hl
  rw [h1] at hk
  cases hk
  exact hB k hl
theorem am_W.inA {D : va_G} {as : Nat → Nat} {n : Nat} {h : am_H} {A : Nat → Prop} {U : State} {H : Heap} (w : am_W D as n h A U H) : ∀ k, k < n → A (as k) := by
  obtain ⟨ws, tys, w1, w2, w3, w4, w5⟩ := w
  intro k hk
  obtain ⟨e, h1, -⟩ := w2 k hk
  exact w5.2 k _ h1
/-- a cell is replaced -/
theorem am_W.put {D : va_G} {as : Nat → Nat} {n q : Nat} {h : am_H} {A : Nat → Prop} {U : State} {H1 : Heap} {ws : va_W} {tys : List (ClassId × FieldType)} {c : am_C} {e : va_E} (w1 : ws.length = n) (w2 : ∀ k : Nat, k < n → ∃ e, ws[k]? = some (as k, e) ∧ am_Cl as n tys (h k) e) (w4 : va_K D vwCl tys U) (hq : q < n)
    (hc : am_Cl as n tys c e) (w3 : va_P D vwCl (ws.set q (as q, e)) H1) (w5 : va_D A (ws.set q (as q, e))) : am_W D as n (am_up h q c) A U H1 := by
  refine ⟨ws.set q (as q, e), tys, by rw [List.length_set]; exact w1, fun k hk => ?_, w3, w4, w5⟩
  by_cases ek : k = q
  · subst ek
    refine ⟨e, by rw [List.getElem?_set_self (by rw [w1]; exact hk)], ?_⟩
    unfold am_up
    rw [if_pos rfl]
    exact hc
  · obtain ⟨e', h1, h2⟩ := w2 k hk
    refine ⟨e', by rw [List.getElem?_set_ne (fun z => ek z.symm)]; exact h1, ?_⟩
    unfold am_up
    rw [if_neg ek]
    exact h2
/-- a cell is made -/
def am_as (as : Nat → Nat) (n q : Nat) : Nat → Nat := fun j => if j = n then q else as j
theorem am_as_E {as : Nat → Nat} {n q : Nat} (hn : n < 1000) : am_E as (am_as as n q) n (n + 1) := ⟨by omega, fun k hk => by unfold am_as; rw [if_neg (by unfold am_ok at hk; omega)]⟩
theorem am_W.make {D : va_G} {as : Nat → Nat} {n q : Nat} {h : am_H} {A : Nat → Prop} {U : State} {H1 : Heap} {ws : va_W} {tys t2 : List (ClassId × FieldType)} {c : am_C} {e : va_E} (hn : n < 1000) (w1 : ws.length = n) (w2 : ∀ k : Nat, k < n → ∃ e, ws[k]? = some (as k, e) ∧ am_Cl as n tys (h k) e) (w4 : va_K D vwCl (tys ++ t2) U)
    (hc : am_Cl (am_as as n q) (n + 1) (tys ++ t2) c e) (w3 : va_P D vwCl (ws ++ [(q, e)]) H1) (w5 : va_D A (ws ++ [(q, e)])) : am_W D (am_as as n q) (n + 1) (am_up h n c) A U H1 := by
  refine ⟨ws ++ [(q, e)], tys ++ t2, by rw [List.length_append, w1]; rfl, fun k hk => ?_, w3, w4, w5⟩
  by_cases ek : k = n
  · subst ek
    refine ⟨e, ?_, ?_⟩
    · rw [List.getElem?_append_right (by omega), w1, Nat.sub_self]
      unfold am_as
      rw [if_pos rfl]; rfl
    · unfold am_up
      rw [if_pos rfl]
      exact hc
  · obtain ⟨e', h1, h2⟩ := w2 k (by omega)
    refine ⟨e', ?_, ?_⟩
    · rw [List.getElem?_append_left (by omega), h1]
      unfold am_as
      rw [if_neg ek]
    · unfold am_up
      rw [if_neg ek]
      exact h2.mono (am_as_E hn)
theorem am_R.fit {as : Nat → Nat} {n : Nat} {v rv : Value} {ty : FieldType} (h : am_R as n v rv) (hn : narrow ty v = v) (hf : fits ty v = true) : narrow ty rv = rv ∧ fits ty rv = true := by
  cases v with
  | ref k =>
    rw [h.2]
    cases ty <;> first | (exact ⟨rfl, rfl⟩) | (simp [fits] at hf)
  | _ =>
    rw [show rv = _ from h]
    exact ⟨hn, hf⟩
def am_noR (fs : List Value) : Bool := fs.all fun v => match v with
  | .ref _ => false
  | _ => true
theorem am_noR_Vs {as : Nat → Nat} {n : Nat} : ∀ {fs : List Value}, am_noR fs = true → am_Vs as n fs fs
  | [], _ => trivial
  | v :: fs, h => by
    unfold am_noR at h
    rw [List.all_cons, Bool.and_eq_true] at h
    refine ⟨?_, am_noR_Vs h.2⟩
    cases v <;> first | rfl | (simp at h)
section GH
variable {X : am_X0} {M : am_M} {d : Nat} {Q : Option Value → am_H → Nat → Prop} {mc ms pc nx : Nat} {L L' st : List Value} {h : am_H} {n k z : Nat} {x : List Nat} {y : Nat} {v : Value}
theorem G.getf {a q ci kf i : Nat} {fs : List Value} {w : Value} (hj : am_at M pc = some (.getfield a, nx, [ci, kf, i], y, v)) (hq : q < n) (hh : h q = .inr (ci, fs)) (hw : fs[kf]? = some w) (kk : G X M d Q mc ms nx L (w :: st) h n k z) : G X M d Q mc ms pc L (.ref q :: st) h n k z := by
  intro p l e R s m args below meth c Qw D as A H locs ls rst C E Z0 Wd S hk hl hst
  obtain ⟨hd, hnx, hok⟩ := am_okM_dec C.2.2.2.2.2.2.2.2.2.2.2.2 hj
  obtain rfl : nx = pc + 3 := hnx
  obtain ⟨r0, e0, g0, h0⟩ := am_Vr hst
  subst e0
  obtain ⟨qc, f1, f2, f3, -⟩ := am_fld_spec C.2.2.2.2.2.2.2.2.2.2.2.2.2 (show am_fld M.2.2.2.2.1.2 a ci kf i false = true from hok)
  obtain ⟨ws, tys, w1, w2, w3, w4, w5⟩ := id Wd
  obtain ⟨en, w6, w7⟩ := w2 q hq
  rw [hh] at w7
  obtain ⟨fs', rfl, w8⟩ := w7
  obtain ⟨rv, w9, w10⟩ := w8.get hw
  exact va_get C.1 C.2.1 C.2.2.2.2.2.2.2.1 (am_cl f1).1 C.2.2.2.2.2.2.1 w4 w3 q w6 f1 kf f2 (C.2.2.2.2.2.2.2.1 _ f3) (fun _ hx => hx) w9 hd (kk p l e R s m args below meth c Qw D as A H locs ls _ C E Z0 Wd S hk hl ⟨w10, h0⟩)
theorem G.putf {a q ci kf i : Nat} {fs : List Value} {w : Value} (hj : am_at M pc = some (.putfield a, nx, [ci, kf, i], y, v)) (hq : q < n) (hh : h q = .inr (ci, fs)) (hl0 : kf < fs.length) (hn : narrow (am_ty ci kf) w = w) (hf : fits (am_ty ci kf) w = true) (hfin : ∀ qc : vw_C, vwCl[ci]? = some qc → (qc.2.1 kf).2.2.2 = true → M.1.name = "<init>") (kk : G X M d Q mc ms nx L st (am_up h q (.inr (ci, fs.set kf w))) n k z) : G X M d Q mc ms pc L (w :: .ref q :: st) h n k z := by
  intro p l e R s m args below meth c Qw D as A H locs ls rst C E Z0 Wd S hk hl hst
  obtain ⟨hd, hnx, hok⟩ := am_okM_dec C.2.2.2.2.2.2.2.2.2.2.2.2 hj
  obtain rfl : nx = pc + 3 := hnx
  obtain ⟨x0, r0, e0, g0, h0⟩ := am_Vc hst
  subst e0
  obtain ⟨r1, e1, g1, h1⟩ := am_Vr h0
  subst e1
  obtain ⟨qc, f1, f2, f3, f4⟩ := am_fld_spec C.2.2.2.2.2.2.2.2.2.2.2.2.2 (show am_fld M.2.2.2.2.1.2 a ci kf i true = true from hok)
  obtain ⟨ws, tys, w1, w2, w3, w4, w5⟩ := id Wd
  obtain ⟨en, w6, w7⟩ := w2 q hq
  rw [hh] at w7
  obtain ⟨fs', rfl, w8⟩ := w7
  obtain ⟨n1, n2⟩ := g0.fit hn hf
  have hc : am_Cl as n tys (.inr (ci, fs.set kf w)) (.inr (ci, fs'.set kf x0)) := ⟨_, rfl, w8.set g0 kf⟩
  cases hfi : (qc.2.1 kf).2.2.2 with
  | false => exact va_put C.1 C.2.1 C.2.2.2.2.2.2.2.1 (am_cl f1).1 (am_ty ci) (am_cl f1).2.1 (am_cl f1).2.2 C.2.2.2.2.2.2.1 w4 w3 w5 S q w6 f1 kf f2 (C.2.2.2.2.2.2.2.1 _ f3) (fun _ hx => hx) hfi ((am_cl f1).2.1 kf f2) n1 n2 (by rw [w8.len]; exact hl0) hd (fun H1 locs1 p1 d1 s1 => kk p l e R s m args below meth c Qw D as A H1 locs1 ls _ C E Z0 (am_W.put w1 w2 w4 hq hc p1 d1) s1 hk hl h1)
  | true => exact va_putF C.1 C.2.1 C.2.2.2.2.2.2.2.1 (am_cl f1).1 (am_ty ci) (am_cl f1).2.1 (am_cl f1).2.2 C.2.2.2.2.2.2.1 w4 w3 w5 S q w6 f1 kf f2 (C.2.2.2.2.2.2.2.1 _ f3) (fun _ hx => hx) hfi (C.2.2.2.2.2.1.trans (hfin qc f1 hfi)) (((am_cn_cl f1).2 kf f2).trans ((am_cn_cl f1).1.trans (by rw [f4 rfl hfi]; exact C.2.2.2.2.2.2.2.2.2.2.2.2.2))) ((am_cl f1).2.1 kf f2) n1 n2 (by rw [w8.len]; exact hl0) hd (fun H1 locs1 p1 d1 s1 => kk p l e R s m args below meth c Qw D as A H1 locs1 ls _ C E Z0 (am_W.put w1 w2 w4 hq hc p1 d1) s1 hk hl h1)
theorem G.iaload {q len : Nat} {f : Nat → Int32} {a : Int32} (hj : am_at M pc = some (.iaload, nx, x, y, v)) (hq : q < n) (hh : h q = .inl (0, len, f)) (hin : vp_in a len) (kk : G X M d Q mc ms nx L (.int (f a.toNatClampNeg) :: st) h n k z) : G X M d Q mc ms pc L (.int a :: .ref q :: st) h n k z := by
  intro p l e R s m args below meth c Qw D as A H locs ls rst C E Z0 Wd S hk hl hst
  obtain ⟨hd, hnx, hok⟩ := am_okM_dec C.2.2.2.2.2.2.2.2.2.2.2.2 hj
  obtain rfl : nx = pc + 1 := hnx
  obtain ⟨r0, e0, h0⟩ := am_Vi hst
  subst e0
  obtain ⟨r1, e1, g1, h1⟩ := am_Vr h0
  subst e1
  obtain ⟨ws, tys, w1, w2, w3, w4, w5⟩ := id Wd
  obtain ⟨en, w6, w7⟩ := w2 q hq
  rw [hh] at w7
  obtain ⟨cA, t0, rfl, w8⟩ := w7
  exact va_iald C.1 C.2.1 w4 w3 q t0 w6 w8 hin hd (kk p l e R s m args below meth c Qw D as A H locs ls _ C E Z0 Wd S hk hl ⟨rfl, h1⟩)
theorem G.iastore {q len : Nat} {f : Nat → Int32} {a b : Int32} (hj : am_at M pc = some (.iastore, nx, x, y, v)) (hq : q < n) (hh : h q = .inl (0, len, f)) (hin : vp_in a len) (kk : G X M d Q mc ms nx L st (am_up h q (.inl (0, len, upd f a.toNatClampNeg b))) n k z) : G X M d Q mc ms pc L (.int b :: .int a :: .ref q :: st) h n k z := by
  intro p l e R s m args below meth c Qw D as A H locs ls rst C E Z0 Wd S hk hl hst
  obtain ⟨hd, hnx, hok⟩ := am_okM_dec C.2.2.2.2.2.2.2.2.2.2.2.2 hj
  obtain rfl : nx = pc + 1 := hnx
  obtain ⟨r0, e0, h0⟩ := am_Vi hst
  subst e0
  obtain ⟨r1, e1, h1⟩ := am_Vi h0
  subst e1
  obtain ⟨r2, e2, g2, h2⟩ := am_Vr h1
  subst e2
  obtain ⟨ws, tys, w1, w2, w3, w4, w5⟩ := id Wd
  obtain ⟨en, w6, w7⟩ := w2 q hq
  rw [hh] at w7
  obtain ⟨cA, t0, rfl, w8⟩ := w7
  exact va_iast C.1 C.2.1 w4 w3 w5 S q t0 w6 w8 hin hd (fun H1 locs1 p1 d1 s1 => kk p l e R s m args below meth c Qw D as A H1 locs1 ls _ C E Z0 (am_W.put w1 w2 w4 hq ⟨cA, t0, rfl, w8⟩ p1 d1) s1 hk hl h2)
theorem G.baload {q len : Nat} {f : Nat → Int32} {a : Int32} (hj : am_at M pc = some (.baload, nx, x, y, v)) (hq : q < n) (hh : h q = .inl (1, len, f)) (hin : vp_in a len) (kk : G X M d Q mc ms nx L (.int (f a.toNatClampNeg) :: st) h n k z) : G X M d Q mc ms pc L (.int a :: .ref q :: st) h n k z := by
  intro p l e R s m args below meth c Qw D as A H locs ls rst C E Z0 Wd S hk hl hst
  obtain ⟨hd, hnx, hok⟩ := am_okM_dec C.2.2.2.2.2.2.2.2.2.2.2.2 hj
  obtain rfl : nx = pc + 1 := hnx
  obtain ⟨r0, e0, h0⟩ := am_Vi hst
  subst e0
  obtain ⟨r1, e1, g1, h1⟩ := am_Vr h0
  subst e1
  obtain ⟨ws, tys, w1, w2, w3, w4, w5⟩ := id Wd
  obtain ⟨en, w6, w7⟩ := w2 q hq
  rw [hh] at w7
  obtain ⟨cA, t0, rfl, w8⟩ := w7
  exact va_zald C.1 C.2.1 w4 w3 q t0 w6 w8 hin hd (kk p l e R s m args below meth c Qw D as A H locs ls _ C E Z0 Wd S hk hl ⟨rfl, h1⟩)
theorem G.bastore {q len : Nat} {f : Nat → Int32} {a b : Int32} (hj : am_at M pc = some (.bastore, nx, x, y, v)) (hq : q < n) (hh : h q = .inl (1, len, f)) (hin : vp_in a len) (kk : G X M d Q mc ms nx L st (am_up h q (.inl (1, len, upd f a.toNatClampNeg (vp_nar .boolean b)))) n k z) : G X M d Q mc ms pc L (.int b :: .int a :: .ref q :: st) h n k z := by
  intro p l e R s m args below meth c Qw D as A H locs ls rst C E Z0 Wd S hk hl hst
  obtain ⟨hd, hnx, hok⟩ := am_okM_dec C.2.2.2.2.2.2.2.2.2.2.2.2 hj
  obtain rfl : nx = pc + 1 := hnx
  obtain ⟨r0, e0, h0⟩ := am_Vi hst
  subst e0
  obtain ⟨r1, e1, h1⟩ := am_Vi h0
  subst e1
  obtain ⟨r2, e2, g2, h2⟩ := am_Vr h1
  subst e2
  obtain ⟨ws, tys, w1, w2, w3, w4, w5⟩ := id Wd
  obtain ⟨en, w6, w7⟩ := w2 q hq
  rw [hh] at w7
  obtain ⟨cA, t0, rfl, w8⟩ := w7
  exact va_zast C.1 C.2.1 w4 w3 w5 S q t0 w6 w8 hin hd (fun H1 locs1 p1 d1 s1 => kk p l e R s m args below meth c Qw D as A H1 locs1 ls _ C E Z0 (am_W.put w1 w2 w4 hq ⟨cA, t0, rfl, w8⟩ p1 d1) s1 hk hl h2)
theorem G.alen {q kd len : Nat} {f : Nat → Int32} (hj : am_at M pc = some (.arraylength, nx, x, y, v)) (hq : q < n) (hh : h q = .inl (kd, len, f)) (kk : G X M d Q mc ms nx L (.int (nI len) :: st) h n k z) : G X M d Q mc ms pc L (.ref q :: st) h n k z := by
  intro p l e R s m args below meth c Qw D as A H locs ls rst C E Z0 Wd S hk hl hst
  obtain ⟨hd, hnx, hok⟩ := am_okM_dec C.2.2.2.2.2.2.2.2.2.2.2.2 hj
  obtain rfl : nx = pc + 1 := hnx
  obtain ⟨r1, e1, g1, h1⟩ := am_Vr hst
  subst e1
  obtain ⟨ws, tys, w1, w2, w3, w4, w5⟩ := id Wd
  obtain ⟨en, w6, w7⟩ := w2 q hq
  rw [hh] at w7
  obtain ⟨cA, t0, rfl, w8⟩ := w7
  exact va_alen C.1 C.2.1 w4 w3 q t0 w6 w8 rfl hd (kk p l e R s m args below meth c Qw D as A H locs ls _ C E Z0 Wd S hk hl ⟨rfl, h1⟩)
theorem G.iret {a : Int32} {ty : FieldType} (hj : am_at M pc = some (.ireturn, nx, x, y, v)) (hr : M.2.2.2.1 = some ty) (hn : narrow ty (.int a) = .int a) (kk : Q (some (.int a)) h n) : G X M d Q mc ms pc L [.int a] h n k z := by
  intro p l e R s m args below meth c Qw D as A H locs ls rst C E Z0 Wd S hk hl hst
  obtain ⟨hd, hnx, hok⟩ := am_okM_dec C.2.2.2.2.2.2.2.2.2.2.2.2 hj
  obtain ⟨r0, e0, h0⟩ := am_Vi hst
  subst e0
  cases am_V0 h0
  exact W.widen hk.1 hk.2.1 (E H locs as n h (some (.int a)) (some (.int a)) pc ls .ireturn hd ⟨a, ty, rfl, hr, hn⟩ rfl kk Wd ⟨am_E.rf, hk.2.2⟩ S)
theorem G.lret {a : Int64} (hj : am_at M pc = some (.lreturn, nx, x, y, v)) (hr : M.2.2.2.1 = some .long) (kk : Q (some (.long a)) h n) : G X M d Q mc ms pc L [.long a] h n k z := by
  intro p l e R s m args below meth c Qw D as A H locs ls rst C E Z0 Wd S hk hl hst
  obtain ⟨hd, hnx, hok⟩ := am_okM_dec C.2.2.2.2.2.2.2.2.2.2.2.2 hj
  obtain ⟨r0, e0, h0⟩ := am_Vl hst
  subst e0
  cases am_V0 h0
  exact W.widen hk.1 hk.2.1 (E H locs as n h (some (.long a)) (some (.long a)) pc ls .lreturn hd ⟨a, rfl, hr⟩ rfl kk Wd ⟨am_E.rf, hk.2.2⟩ S)
theorem G.aret {a : Nat} {ty : FieldType} (hj : am_at M pc = some (.areturn, nx, x, y, v)) (hr : M.2.2.2.1 = some ty) (hn : (∃ n, ty = .object n) ∨ ∃ t, ty = .array t) (kk : Q (some (.ref a)) h n) : G X M d Q mc ms pc L [.ref a] h n k z := by
  intro p l e R s m args below meth c Qw D as A H locs ls rst C E Z0 Wd S hk hl hst
  obtain ⟨hd, hnx, hok⟩ := am_okM_dec C.2.2.2.2.2.2.2.2.2.2.2.2 hj
  obtain ⟨r0, e0, g0, h0⟩ := am_Vr hst
  subst e0
  cases am_V0 h0
  exact W.widen hk.1 hk.2.1 (E H locs as n h (some (.ref a)) (some (.ref (as a))) pc ls .areturn hd ⟨_, ty, rfl, hr, hn⟩ ⟨g0, rfl⟩ kk Wd ⟨am_E.rf, hk.2.2⟩ S)
theorem G.vret (hj : am_at M pc = some (.return_, nx, x, y, v)) (hr : M.2.2.2.1 = none) (kk : Q none h n) : G X M d Q mc ms pc L [] h n k z := by
  intro p l e R s m args below meth c Qw D as A H locs ls rst C E Z0 Wd S hk hl hst
  obtain ⟨hd, hnx, hok⟩ := am_okM_dec C.2.2.2.2.2.2.2.2.2.2.2.2 hj
  cases am_V0 hst
  exact W.widen hk.1 hk.2.1 (E H locs as n h none none pc ls .return_ hd ⟨hr, rfl⟩ trivial kk Wd ⟨am_E.rf, hk.2.2⟩ S)
theorem G.sld {N : Nat} {xs : Nat → Int32} {a : Int32} (hj : am_at M pc = some (.iaload, nx, x, y, v)) (hX : X = some (N, xs)) (hin : vp_in a N) (kk : G X M d Q mc ms nx L (.int (xs a.toNatClampNeg) :: st) h n k z) : G X M d Q mc ms pc L (.int a :: .ref 4000 :: st) h n k z := by
  intro p l e R s m args below meth c Qw D as A H locs ls rst C E Z0 Wd S hk hl hst
  obtain ⟨hd, hnx, hok⟩ := am_okM_dec C.2.2.2.2.2.2.2.2.2.2.2.2 hj
  obtain rfl : nx = pc + 1 := hnx
  obtain ⟨r0, e0, h0⟩ := am_Vi hst
  subst e0
  obtain ⟨r1, e1, g1, h1⟩ := am_Vr h0
  subst e1
  have hz := Z0.2.2
  subst hX
  exact va_sld C.1 C.2.1 hz.1 hz.2.1 hz.2.2 S hin hd (kk p l e R s m args below meth c Qw D as A H locs ls _ C E Z0 Wd S hk hl ⟨rfl, h1⟩)
theorem G.slen {N : Nat} {xs : Nat → Int32} (hj : am_at M pc = some (.arraylength, nx, x, y, v)) (hX : X = some (N, xs)) (kk : G X M d Q mc ms nx L (.int (nI N) :: st) h n k z) : G X M d Q mc ms pc L (.ref 4000 :: st) h n k z := by
  intro p l e R s m args below meth c Qw D as A H locs ls rst C E Z0 Wd S hk hl hst
  obtain ⟨hd, hnx, hok⟩ := am_okM_dec C.2.2.2.2.2.2.2.2.2.2.2.2 hj
  obtain rfl : nx = pc + 1 := hnx
  obtain ⟨r1, e1, g1, h1⟩ := am_Vr hst
  subst e1
  have hz := Z0.2.2
  subst hX
  exact va_slen C.1 C.2.1 hz.1 hz.2.1 hz.2.2 S hd (kk p l e R s m args below meth c Qw D as A H locs ls _ C E Z0 Wd S hk hl ⟨rfl, h1⟩)
theorem G.tabIn {df lo hi : Int} {os : Array Int} {a : Int32} {t0 t : Nat} {ts : List Nat} (hj : am_at M pc = some (.tableswitch df lo hi os, nx, t0 :: ts, y, v)) (h1 : ¬ a.toInt < lo) (h2 : ¬ hi < a.toInt) (ho : ts[(a.toInt - lo).toNat]? = some t) (kk : G X M d Q mc ms t L st h n k z) : G X M d Q mc ms pc L (.int a :: st) h n k z := by
  intro p l e R s m args below meth c Qw D as A H locs ls rst C E Z0 Wd S hk hl hst
  obtain ⟨hd, hnx, hok⟩ := am_okM_dec C.2.2.2.2.2.2.2.2.2.2.2.2 hj
  obtain ⟨r0, e0, h0⟩ := am_Vi hst
  subst e0
  have e1 := of_decide_eq_true (show decide (((pc : Int) + df) :: os.toList.map (fun o => (pc : Int) + o) = (t0 :: ts).map Int.ofNat) = true from hok)
  rw [List.map_cons] at e1
  injection e1 with e2 e3
  have e4 : (ts.map Int.ofNat)[(a.toInt - lo).toNat]? = some (t : Int) := by rw [List.getElem?_map, ho]; rfl
  rw [← e3, List.getElem?_map] at e4
  cases hof : os.toList[(a.toInt - lo).toNat]? with
  | none => rw [hof] at e4; cases e4
  | some off =>
    rw [hof] at e4
    exact lv_tableIn C.1 C.2.1 hd h1 h2 (by rw [← Array.getElem?_toList]; exact hof) (Option.some.inj e4) (kk p l e R s m args below meth c Qw D as A H locs ls _ C E Z0 Wd S hk hl h0)
theorem G.tabOut {df lo hi : Int} {os : Array Int} {a : Int32} {t0 : Nat} {ts : List Nat} (hj : am_at M pc = some (.tableswitch df lo hi os, nx, t0 :: ts, y, v)) (h1 : a.toInt < lo ∨ hi < a.toInt) (kk : G X M d Q mc ms t0 L st h n k z) : G X M d Q mc ms pc L (.int a :: st) h n k z := by
  intro p l e R s m args below meth c Qw D as A H locs ls rst C E Z0 Wd S hk hl hst
  obtain ⟨hd, hnx, hok⟩ := am_okM_dec C.2.2.2.2.2.2.2.2.2.2.2.2 hj
  obtain ⟨r0, e0, h0⟩ := am_Vi hst
  subst e0
  have e1 := of_decide_eq_true (show decide (((pc : Int) + df) :: os.toList.map (fun o => (pc : Int) + o) = (t0 :: ts).map Int.ofNat) = true from hok)
  rw [List.map_cons] at e1
  injection e1 with e2 e3
  exact lv_tableOut C.1 C.2.1 hd h1 e2 (kk p l e R s m args below meth c Qw D as A H locs ls _ C E Z0 Wd S hk hl h0)
theorem G.lkp {df off : Int} {ps : Array (Int × Int)} {a : Int32} {t : Nat} (hj : am_at M pc = some (.lookupswitch df ps, nx, x, y, v)) (ho : Op.lookupswitch.offset ps.toList df a.toInt = off) (ht : (pc : Int) + off = (t : Int)) (kk : G X M d Q mc ms t L st h n k z) : G X M d Q mc ms pc L (.int a :: st) h n k z := by
  intro p l e R s m args below meth c Qw D as A H locs ls rst C E Z0 Wd S hk hl hst
  obtain ⟨hd, hnx, hok⟩ := am_okM_dec C.2.2.2.2.2.2.2.2.2.2.2.2 hj
  obtain ⟨r0, e0, h0⟩ := am_Vi hst
  subst e0
  have e1 : (decide (((pc : Int) + df) :: ps.toList.map (fun o => (pc : Int) + o.2) = x.map Int.ofNat) && (ps.toList.zip (ps.toList.drop 1)).all (fun (a, next) => a.1 < next.1)) = true := hok
  rw [Bool.and_eq_true] at e1
  exact lv_lookup C.1 C.2.1 hd e1.2 ho ht (kk p l e R s m args below meth c Qw D as A H locs ls _ C E Z0 Wd S hk hl h0)
/-- a String's bytes, its coder; its bytes' length, one of them -/
theorem G.strV {a i : Nat} (hj : am_at M pc = some (.getfield a, nx, x, y, v)) (hi : i < 12) (hlk : Cond.fieldLink M.1.cls a "java/lang/String" "value" "[B" ∈ lw_T) (kk : G X M d Q mc ms nx L (.ref (2000 + i) :: st) h n k z) : G X M d Q mc ms pc L (.ref (1000 + i) :: st) h n k z := by
  intro p l e R s m args below meth c Qw D as A H locs ls rst C E Z0 Wd S hk hl hst
  obtain ⟨hd, hnx, hok⟩ := am_okM_dec C.2.2.2.2.2.2.2.2.2.2.2.2 hj
  obtain rfl : nx = pc + 3 := hnx
  obtain ⟨r0, e0, g0, h0⟩ := am_Vr hst
  subst e0
  have hE := (Z0.2.1.2.2.2.2.1.1 i hi).2.2.1
  exact vk_getf C.1 C.2.1 hE S C.2.2.2.2.2.2.1 (C.2.2.2.2.2.2.2.1 _ hlk) (fun _ hx => hx) hd (kk p l e R s m args below meth c Qw D as A H locs ls _ C E Z0 Wd S hk hl ⟨⟨Or.inr (by omega), rfl⟩, h0⟩)
theorem G.strC {a i : Nat} (hj : am_at M pc = some (.getfield a, nx, x, y, v)) (hi : i < 12) (hlk : Cond.fieldLink M.1.cls a "java/lang/String" "coder" "B" ∈ lw_T) (kk : G X M d Q mc ms nx L (.int 0 :: st) h n k z) : G X M d Q mc ms pc L (.ref (1000 + i) :: st) h n k z := by
  intro p l e R s m args below meth c Qw D as A H locs ls rst C E Z0 Wd S hk hl hst
  obtain ⟨hd, hnx, hok⟩ := am_okM_dec C.2.2.2.2.2.2.2.2.2.2.2.2 hj
  obtain rfl : nx = pc + 3 := hnx
  obtain ⟨r0, e0, g0, h0⟩ := am_Vr hst
  subst e0
  have hE := (Z0.2.1.2.2.2.2.1.1 i hi).2.1
  exact vk_getf C.1 C.2.1 hE S C.2.2.2.2.2.2.1 (C.2.2.2.2.2.2.2.1 _ hlk) (fun _ hx => hx) hd (kk p l e R s m args below meth c Qw D as A H locs ls _ C E Z0 Wd S hk hl ⟨rfl, h0⟩)
theorem G.strL {i : Nat} (hj : am_at M pc = some (.arraylength, nx, x, y, v)) (hi : i < 12) (kk : G X M d Q mc ms nx L (.int (nI (am_lens.getD i 0)) :: st) h n k z) : G X M d Q mc ms pc L (.ref (2000 + i) :: st) h n k z := by
  intro p l e R s m args below meth c Qw D as A H locs ls rst C E Z0 Wd S hk hl hst
  obtain ⟨hd, hnx, hok⟩ := am_okM_dec C.2.2.2.2.2.2.2.2.2.2.2.2 hj
  obtain rfl : nx = pc + 1 := hnx
  obtain ⟨r0, e0, g0, h0⟩ := am_Vr hst
  subst e0
  have hE := (Z0.2.1.2.2.2.2.1.1 i hi).2.2.2
  exact va_tlen C.1 C.2.1 hE S rfl hd (kk p l e R s m args below meth c Qw D as A H locs ls _ C E Z0 Wd S hk hl ⟨rfl, h0⟩)
theorem G.strB {i : Nat} {a : Int32} (hj : am_at M pc = some (.baload, nx, x, y, v)) (hi : i < 12) (hin : vp_in a (am_lens.getD i 0)) (kk : G X M d Q mc ms nx L (.int ((am_byt.getD i []).getD a.toNatClampNeg 0) :: st) h n k z) : G X M d Q mc ms pc L (.int a :: .ref (2000 + i) :: st) h n k z := by
  intro p l e R s m args below meth c Qw D as A H locs ls rst C E Z0 Wd S hk hl hst
  obtain ⟨hd, hnx, hok⟩ := am_okM_dec C.2.2.2.2.2.2.2.2.2.2.2.2 hj
  obtain rfl : nx = pc + 1 := hnx
  obtain ⟨r1, e1, h1⟩ := am_Vi hst
  subst e1
  obtain ⟨r0, e0, g0, h0⟩ := am_Vr h1
  subst e0
  have hE := (Z0.2.1.2.2.2.2.1.1 i hi).2.2.2
  exact va_tb C.1 C.2.1 hE S hin rfl hd (kk p l e R s m args below meth c Qw D as A H locs ls _ C E Z0 Wd S hk hl ⟨rfl, h0⟩)
theorem G.cmpS {a : Nat} (hj : am_at M pc = some (.getstatic a, nx, x, y, v)) (hlk : Cond.fieldLink M.1.cls a "java/lang/String" "COMPACT_STRINGS" "Z" ∈ lw_T) (kk : G X M d Q mc ms nx L (.int 1 :: st) h n k z) : G X M d Q mc ms pc L st h n k z := by
  intro p l e R s m args below meth c Qw D as A H locs ls rst C E Z0 Wd S hk hl hst
  obtain ⟨hd, hnx, hok⟩ := am_okM_dec C.2.2.2.2.2.2.2.2.2.2.2.2 hj
  obtain rfl : nx = pc + 3 := hnx
  exact va_gets C.1 C.2.1 Z0.2.1.2.2.1 S C.2.2.2.2.2.2.1 (C.2.2.2.2.2.2.2.1 _ hlk) (fun _ hx => hx) hd (kk p l e R s m args below meth c Qw D as A H locs ls _ C E Z0 Wd S hk hl ⟨rfl, hst⟩)
theorem G.fmtS {a : Nat} (hj : am_at M pc = some (.getstatic a, nx, x, y, v)) (hlk : Cond.fieldLink M.1.cls a "jdk/internal/util/Preconditions" "SIOOBE_FORMATTER" "Ljava/util/function/BiFunction;" ∈ lw_T) (kk : ∀ w : Value, w = .ref 3001 ∨ w = .null → G X M d Q mc ms nx L (w :: st) h n k z) : G X M d Q mc ms pc L st h n k z := by
  intro p l e R s m args below meth c Qw D as A H locs ls rst C E Z0 Wd S hk hl hst
  obtain ⟨hd, hnx, hok⟩ := am_okM_dec C.2.2.2.2.2.2.2.2.2.2.2.2 hj
  obtain rfl : nx = pc + 3 := hnx
  rcases Z0.2.1.2.2.2.1 with hF | hF
  · exact va_gets C.1 C.2.1 hF S C.2.2.2.2.2.2.1 (C.2.2.2.2.2.2.2.1 _ hlk) (fun _ hx => hx) hd (kk (.ref 3001) (Or.inl rfl) p l e R s m args below meth c Qw D as A H locs ls _ C E Z0 Wd S hk hl ⟨⟨Or.inr (by omega), rfl⟩, hst⟩)
  · exact va_gets C.1 C.2.1 hF S C.2.2.2.2.2.2.1 (C.2.2.2.2.2.2.2.1 _ hlk) (fun _ hx => hx) hd (kk .null (Or.inr rfl) p l e R s m args below meth c Qw D as A H locs ls _ C E Z0 Wd S hk hl ⟨rfl, hst⟩)
theorem G.wayS {a : Nat} {host : String} (hj : am_at M pc = some (.getstatic a, nx, x, y, v)) (hlk : Cond.fieldLinkNest M.1.cls a RX11 "WAYS" "[I" host ∈ lw_tbl) (kk : G X M d Q mc ms nx L (.ref 3000 :: st) h n k z) : G X M d Q mc ms pc L st h n k z := by
  intro p l e R s m args below meth c Qw D as A H locs ls rst C E Z0 Wd S hk hl hst
  obtain ⟨hd, hnx, hok⟩ := am_okM_dec C.2.2.2.2.2.2.2.2.2.2.2.2 hj
  obtain rfl : nx = pc + 3 := hnx
  exact va_getsN C.1 C.2.1 Z0.2.1.1 S C.2.2.2.2.2.2.1 (va_Nw.use rfl (Z0.2.1.2.2.2.2.2.2 _ hlk rfl)) (fun _ hx => hx) hd (kk p l e R s m args below meth c Qw D as A H locs ls _ C E Z0 Wd S hk hl ⟨⟨Or.inr (by omega), rfl⟩, hst⟩)
theorem G.wayL {a : Int32} (hj : am_at M pc = some (.iaload, nx, x, y, v)) (hin : vp_in a 17) (kk : G X M d Q mc ms nx L (.int (am_ways.getD a.toNatClampNeg 0) :: st) h n k z) : G X M d Q mc ms pc L (.int a :: .ref 3000 :: st) h n k z := by
  intro p l e R s m args below meth c Qw D as A H locs ls rst C E Z0 Wd S hk hl hst
  obtain ⟨hd, hnx, hok⟩ := am_okM_dec C.2.2.2.2.2.2.2.2.2.2.2.2 hj
  obtain rfl : nx = pc + 1 := hnx
  obtain ⟨r1, e1, h1⟩ := am_Vi hst
  subst e1
  obtain ⟨r0, e0, g0, h0⟩ := am_Vr h1
  subst e0
  exact va_ti C.1 C.2.1 Z0.2.1.2.1 S hin rfl hd (kk p l e R s m args below meth c Qw D as A H locs ls _ C E Z0 Wd S hk hl ⟨rfl, h0⟩)
theorem G.wayN (hj : am_at M pc = some (.arraylength, nx, x, y, v)) (kk : G X M d Q mc ms nx L (.int 17 :: st) h n k z) : G X M d Q mc ms pc L (.ref 3000 :: st) h n k z := by
  intro p l e R s m args below meth c Qw D as A H locs ls rst C E Z0 Wd S hk hl hst
  obtain ⟨hd, hnx, hok⟩ := am_okM_dec C.2.2.2.2.2.2.2.2.2.2.2.2 hj
  obtain rfl : nx = pc + 1 := hnx
  obtain ⟨r0, e0, g0, h0⟩ := am_Vr hst
  subst e0
  exact va_tlen C.1 C.2.1 Z0.2.1.2.1 S rfl hd (kk p l e R s m args below meth c Qw D as A H locs ls _ C E Z0 Wd S hk hl ⟨rfl, h0⟩)
theorem G.new {a ci i1 i2 i3 : Nat} {qc : vw_C} {fs : List Value} (hj : am_at M pc = some (.new a, nx, [ci, i1, i2, i3], y, v)) (hq : vwCl[ci]? = some qc) (hfs : ∀ j, j < qc.2.2 → defaultValue (am_ty ci j) = vp_V fs j) (hnr : am_noR fs = true) (hk1 : k + 1 ≤ mc) (hz1 : z + qc.2.2 ≤ ms) (hn1 : n < 1000)
    (kk : G X M d Q mc ms nx L (.ref n :: st) (am_up h n (.inr (ci, fs))) (n + 1) (k + 1) (z + qc.2.2)) : G X M d Q mc ms pc L st h n k z := by
  intro p l e R s m args below meth c Qw D as A H locs ls rst C E Z0 Wd S hk hl hst
  obtain ⟨hd, hnx, hok⟩ := am_okM_dec C.2.2.2.2.2.2.2.2.2.2.2.2 hj
  obtain rfl : nx = pc + 3 := hnx
  obtain ⟨ws, tys, w1, w2, w3, w4, w5⟩ := id Wd
  have h1 : (decide (am_pw i1 = some (6, M.2.2.2.2.1.2, a, ci, 0)) && (decide (am_pw i2 = some (7, ci, 0, 0, 0)) && decide (am_pw i3 = some (8, ci, 0, 0, 0)))) = true := hok
  simp only [Bool.and_eq_true, decide_eq_true_eq] at h1
  have g1 : Cond.classLink (am_cn M.2.2.2.2.1.2) a (am_cn ci) ∈ lw_T := am_pw_T h1.1 rfl
  have g2 : Cond.instantiable (am_cn ci) (vwCl.getD ci (RX0, TX0, 6)).2.2 ∈ lw_T := am_pw_T h1.2.1 rfl
  have g3 : Cond.initialized (am_cn ci) ∈ lw_T := am_pw_T h1.2.2 rfl
  rw [show vwCl.getD ci (RX0, TX0, 6) = qc by rw [List.getD_eq_getElem?_getD, hq]; rfl] at g2
  rw [C.2.2.2.2.2.2.2.2.2.2.2.2.2] at g1
  rw [← (am_cn_cl hq).1] at g1 g2 g3
  have T := C.2.2.2.2.2.2.2.1
  refine va_new C.1 C.2.1 T (am_cl hq).1 (am_ty ci) (am_cl hq).2.1 C.2.2.2.2.2.2.1 (T _ g1) (T _ g2) (T _ g3) w4 w3 w5 S Z0.1 hq hfs (Nat.le_trans hk1 C.2.2.2.2.2.2.2.2.2.2.1) (Nat.le_trans hz1 C.2.2.2.2.2.2.2.2.2.2.2.1) hd (fun q H1 p1 d1 s1 => ?_)
  have hE := am_as_E (as := as) (q := q) hn1
  have w4' : va_K D vwCl (tys ++ []) s := by rw [List.append_nil]; exact w4
  refine kk p l e R s m args below meth c Qw D (am_as as n q) A H1 locs ls _ C (E.to hE) ⟨Z0.1, Z0.2.1.ext hE, Z0.2.2.to hE⟩ (am_W.make (t2 := []) hn1 w1 w2 w4' ⟨fs, rfl, am_noR_Vs hnr⟩ p1 d1) s1 ⟨hk1, hz1, hn1⟩ (hl.mono hE) ⟨⟨Or.inl (by omega), by unfold am_as; rw [if_pos rfl]⟩, hst.mono hE⟩
theorem G.newa {t : ArrayType} {i kd N : Nat} {a : Int32} (hj : am_at M pc = some (.newarray t, nx, [i, kd], y, v)) (hd0 : defaultValue (am_K0 kd) = .int 0) (hn : ¬ a < 0) (hN : a.toNatClampNeg = N) (hb : N * componentBytes (am_K0 kd) ≤ 536870912) (hk1 : k + 1 ≤ mc) (hz1 : z + N ≤ ms) (hn1 : n < 1000)
    (kk : G X M d Q mc ms nx L (.ref n :: st) (am_up h n (.inl (kd, N, fun _ => 0))) (n + 1) (k + 1) (z + N)) : G X M d Q mc ms pc L (.int a :: st) h n k z := by
  intro p l e R s m args below meth c Qw D as A H locs ls rst C E Z0 Wd S hk hl hst
  obtain ⟨hd, hnx, hok⟩ := am_okM_dec C.2.2.2.2.2.2.2.2.2.2.2.2 hj
  obtain rfl : nx = pc + 2 := hnx
  obtain ⟨r0, e0, h0⟩ := am_Vi hst
  subst e0
  obtain ⟨ws, tys, w1, w2, w3, w4, w5⟩ := id Wd
  have h1 : (decide (am_pw i = some (9, kd, 0, 0, 0)) && decide (newarray.typeOf t = am_K0 kd)) = true := hok
  simp only [Bool.and_eq_true, decide_eq_true_eq] at h1
  have hty := h1.2
  have g1 : Cond.arrayClass (am_K0 kd) ∈ lw_T := am_pw_T h1.1 rfl
  rw [← hty] at g1
  have T := C.2.2.2.2.2.2.2.1
  refine va_newa (a0 := (N, .inl (fun _ => 0))) C.1 C.2.1 (T _ g1) hty w4 w3 w5 S Z0.1 (fun cA => by rw [hd0]; rfl) hn hN hb (Nat.le_trans hk1 C.2.2.2.2.2.2.2.2.2.2.1) (Nat.le_trans hz1 C.2.2.2.2.2.2.2.2.2.2.2.1) hd (fun q cA H1 k1 p1 d1 s1 => ?_)
  have hE := am_as_E (as := as) (q := q) hn1
  refine kk p l e R s m args below meth c Qw D (am_as as n q) A H1 locs ls _ C (E.to hE) ⟨Z0.1, Z0.2.1.ext hE, Z0.2.2.to hE⟩ (am_W.make hn1 w1 w2 k1 ⟨cA, tys.length, rfl, by rw [List.getElem?_append_right (Nat.le_refl _), Nat.sub_self]; rfl⟩ p1 d1) s1 ⟨hk1, hz1, hn1⟩ (hl.mono hE) ⟨⟨Or.inl (by omega), by unfold am_as; rw [if_pos rfl]⟩, h0.mono hE⟩
end GH
