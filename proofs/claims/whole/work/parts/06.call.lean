/-! CALLS -/
def am_ws (M : am_M) : List Cond := .code M.1 M.2.1 M.2.2.1 M.2.2.2.1 :: lw_T
def am_rm (d mc ms : Nat) : Room := { frames := d, cells := mc, slots := ms, locals := 40 * d }
def am_A (as : Nat → Nat) (n sz : Nat) : Nat → Prop := fun q => (∃ k, k < n ∧ q = as k) ∨ sz ≤ q
def am_B (D : va_G) (as : Nat → Nat) (n : Nat) (h : am_H) (sz : Nat) : State → Prop := fun U => U.heap.size = sz ∧ am_W D as n h (fun _ => True) U U.heap ∧ am_Z as (am_A as n sz) U U.heap
def am_Q (D : va_G) (as : Nat → Nat) (n : Nat) (A : Nat → Prop) (Q : Option Value → am_H → Nat → Prop) : Array Value → State → Outcome → State → Prop := fun _ st oc t =>
  (∃ (v rv : Option Value) (h' : am_H) (n' : Nat) (as' : Nat → Nat), oc = .returned rv ∧ am_Ro as' n' v rv ∧ Q v h' n' ∧ am_W D as' n' h' A t t.heap ∧ am_E as as' n n' ∧ n' ≤ 1000) ∧ va_F A st t
/-- a method called on args, where the cells are h (n of them): it returns, makes mc cells of ms places at most, and Q of its answer and of the cells -/
def Call (M : am_M) (d : Nat) (args : List Value) (h : am_H) (n mc ms : Nat) (Q : Option Value → am_H → Nat → Prop) : Prop :=
  n ≤ 1000 → ∀ (l : Launch) (D : va_G) (as : Nat → Nat) (aargs : List Value) (sz : Nat), am_Vs as n args aargs → Met l M.1 (am_ws M) (am_rm d mc ms) (va_Pc aargs (am_B D as n h sz)) (am_Q D as n (am_A as n sz) Q) mc ms (am_A as n sz)
def am_ent : List Value → List Value
  | [] => []
  | a :: l => if a.category = 2 then a :: .retAddr 0 :: am_ent l else a :: am_ent l
theorem am_ent_get {as : Nat → Nat} {n : Nat} : ∀ {args aargs : List Value} (o : Nat), am_Vs as n args aargs → ∀ (i : Nat) (v : Value), (am_ent args)[i]? = some v → v ≠ .retAddr 0 → ∃ rv, (o + i, rv) ∈ lv_args o aargs ∧ am_R as n v rv
  | [], [], _, _, i, v, hi, _ => by simp [am_ent] at hi
  | a :: l, b :: m, o, h, i, v, hi, hv => by
    have hc : b.category = a.category := h.1.cat
    unfold am_ent at hi
    unfold lv_args
    rw [hc]
    by_cases h2 : a.category = 2
    · rw [if_pos h2] at hi ⊢
      match i, hi with
      | 0, hi =>
        simp at hi
        subst hi
        exact ⟨b, List.mem_cons_self, h.1⟩
      | 1, hi =>
        simp at hi
        exact absurd hi.symm hv
      | i + 2, hi =>
        obtain ⟨rv, q1, q2⟩ := am_ent_get (o + 2) h.2 i v (by simpa using hi) hv
        exact ⟨rv, List.mem_cons_of_mem _ (by rw [show o + (i + 2) = o + 2 + i by omega]; exact q1), q2⟩
    · rw [if_neg h2] at hi ⊢
      match i, hi with
      | 0, hi =>
        simp at hi
        subst hi
        exact ⟨b, List.mem_cons_self, h.1⟩
      | i + 1, hi =>
        obtain ⟨rv, q1, q2⟩ := am_ent_get (o + 1) h.2 i v (by simpa using hi) hv
        exact ⟨rv, List.mem_cons_of_mem _ (by rw [show o + (i + 1) = o + 1 + i by omega]; exact q1), q2⟩
theorem am_sl_len {as : Nat → Nat} {n : Nat} : ∀ {args aargs : List Value}, am_Vs as n args aargs → (lg_sl aargs).length = (am_ent args).length
  | [], [], _ => rfl
  | a :: l, b :: m, h => by
    have hc : b.category = a.category := h.1.cat
    have ih := am_sl_len h.2
    unfold am_ent
    simp only [lg_sl, List.flatMap_cons, List.length_append] at ih ⊢
    by_cases h2 : a.category = 2
    · rw [if_pos h2]
      simp [h2, hc, ih]
      omega
    · rw [if_neg h2]
      simp [h2, hc, ih]
      omega
theorem am_Met {M : am_M} {d mc ms n : Nat} {h : am_H} {Q : Option Value → am_H → Nat → Prop} {args : List Value} (hok : am_ok0 M) (hy : plainFor M.1 = true) (hle : (am_ent args).length ≤ M.2.2.1)
    (kk : G none M d Q mc ms 0 (am_ent args ++ List.replicate (M.2.2.1 - (am_ent args).length) (.retAddr 0)) [] h n 0 0) : Call M d args h n mc ms Q := by
  intro hn1 l D as aargs sz hv
  refine va_MetF (cc := M.2.1) (maxL := M.2.2.1) (ret := M.2.2.2.1) hy rfl ?_
  intro p e s m args0 below meth c s₁ B hml hp
  obtain ⟨rfl, rfl, hW, hZ⟩ := hp
  have hts := atoms_spec (ws := am_ws M) B.pre
  have hown : s.vm.findClass M.1.cls = some m.cls := findClass_of_methodNamed B.named
  have hin : meth.name = M.1.name := (name_of_methodNamed B.named B.method).1
  have hl := lv_entry aargs (n := M.2.2.1) (by rw [am_sl_len hv]; exact hle)
  rw [lg_entry_eq]
  have hC : am_X M d mc ms p (headSpec (am_ws M) (am_rm d mc ms)).room s m aargs.toArray meth c := ⟨B.exec, B.bytes, hml, B.returns, B.notSynchronized, hin, hown, fun w hw => hts w (List.mem_cons_of_mem _ hw), Nat.le_refl _, Nat.le_refl _, Nat.le_refl _, Nat.le_refl _, hok⟩
  refine kk p l e _ s m _ below meth c _ D as (am_A as n s.heap.size) s.heap [] _ [] hC ?_ ⟨fun q hq => Or.inr hq, hZ, trivial⟩ (hW.into fun k hk => Or.inl ⟨k, hk, rfl⟩) va_S.rf ⟨Nat.zero_le _, Nat.zero_le _, hn1⟩ ?_ trivial
  · intro H locs as' n' h' v rv pc ls i hd hret hro hQ hW' hE hS
    have post : ∀ t : State, t.heap = H → s.WarmedH t.vm → am_Q D as n (am_A as n s.heap.size) Q aargs.toArray s (.returned rv) t := fun t ht hw => ⟨⟨v, rv, h', n', as', rfl, hro, hQ, by rw [ht]; exact hW'.moved hw.alike, hE.1, hE.2⟩, hS.F ht⟩
    have hlk : meth.locks = false := B.notSynchronized
    unfold am_ret at hret
    split at hret
    · obtain ⟨h1, rfl⟩ := hret
      exact W.vret B.exec B.bytes (B.returns.trans h1) post hS.2.2 hd hlk
    · obtain ⟨a, ty, rfl, h1, h2⟩ := hret
      exact W.zret B.exec B.bytes (B.returns.trans h1) h2 post hS.2.2 hd hlk
    · obtain ⟨a, rfl, h1⟩ := hret
      exact W.lret B.exec B.bytes (B.returns.trans h1) post hS.2.2 hd hlk
    · obtain ⟨a, ty, rfl, h1, h2⟩ := hret
      exact W.aret B.exec B.bytes (B.returns.trans h1) h2 (Or.inr ⟨a, rfl⟩) post hS.2.2 hd hlk
    · exact hret.elim
  · refine ⟨by rw [List.length_append, List.length_replicate]; omega, _, hl, fun i v hi hvv => ?_⟩
    by_cases hlt : i < (am_ent args).length
    · rw [List.getElem?_append_left hlt] at hi
      obtain ⟨rv, q1, q2⟩ := am_ent_get 0 hv i v hi hvv
      rw [Nat.zero_add] at q1
      exact ⟨rv, q1, q2⟩
    · rw [List.getElem?_append_right (by omega)] at hi
      exact absurd (List.eq_of_mem_replicate (List.mem_of_getElem? hi)) hvv
/-- what the tables must say of a method that is called: its code, its class, its kind (0 by its object, 1 static, 2 a constructor), how many arguments -/
def am_okC2 (M : am_M) (kd np : Nat) : Prop := Cond.code M.1 M.2.1 M.2.2.1 M.2.2.2.1 ∈ lw_T ∧ Cond.initialized M.1.cls ∈ lw_T ∧ (M.1.cls ≠ "java/lang/invoke/MethodHandle" ∧ M.1.cls ≠ "java/lang/invoke/VarHandle" ∧ (parseMethodDescriptor M.1.desc).map (fun d => d.parameters.length) = some np) ∧ M.2.2.1 ≤ 21 ∧ (match kd with
  | 0 => Cond.instanceMethod M.1 ∈ lw_T ∧ Cond.selects M.1.cls M.1 M.1 ∈ lw_T
  | 1 => Cond.static M.1 ∈ lw_T
  | _ => Cond.instanceMethod M.1 ∈ lw_T ∧ M.1.name = "<init>" ∧ M.2.2.2.1 = none)
theorem am_link_spec {cl : String} {own idx : Nat} {x : List Nat} {y : Nat} (hc : am_cn own = cl) (h : am_link own idx x y = true) : Cond.methodLink cl idx (am_yn y) ∈ lw_T ∨ ∃ host, Cond.methodLinkNest cl idx (am_yn y) host ∈ lw_tbl := by
  subst hc
  unfold am_link am_3 at h
  split at h
  · dsimp only at h
    split at h
    · exact Or.inl (am_pw_T (of_decide_eq_true h) rfl)
    · exact Or.inr ⟨_, am_pw_ok (of_decide_eq_true h)⟩
  · cases h
theorem am_good {M : am_M} (h : Cond.code M.1 M.2.1 M.2.2.1 M.2.2.2.1 ∈ lw_T) : GoodIn lw_T (am_ws M) := fun w hw => by
  rcases List.mem_cons.mp hw with rfl | hw
  · exact lw_T_good _ h
  · exact lw_T_good _ hw
theorem am_blind {D : va_G} {as : Nat → Nat} {n sz : Nat} {h : am_H} {aargs : List Value} : FrameBlind (va_Pc aargs (am_B D as n h sz)) := fun a U g mk q => by
  obtain ⟨q1, q2, q3, q4⟩ := q
  exact ⟨q1, q2, q3.moved (u := U) (U := U.calling g mk a) (Vm.Alike.refl U.vm), q4.same (s := U) (U := U.calling g mk a) rfl⟩
theorem am_pre {D : va_G} {as : Nat → Nat} {n : Nat} {h : am_H} {A : Nat → Prop} {s : State} {H : Heap} {locs : List Loc} (hA : ∀ q : Nat, s.heap.size ≤ q → A q) (hZ : am_Z as A s s.heap) (hW : am_W D as n h A s H) (hS : va_S A s.heap H locs) {U : State} (hU : U.heap = H) (hw : s.WarmedH U.vm) : am_B D as n h H.size U := by
  refine ⟨by rw [hU], by rw [hU]; exact (hW.moved hw.alike).weaken (fun _ _ => trivial), ?_⟩
  rw [hU]
  exact hZ.to (am_E.rf (n := n)) hw hS.2.1 (fun q hq => by
    rcases hq with ⟨k, hk, rfl⟩ | hq
    · exact hW.inA k hk
    · exact hA q (Nat.le_trans hS.1 hq))
section GC
variable {X : am_X0} {M : am_M} {d : Nat} {Q : Option Value → am_H → Nat → Prop} {mc ms pc nx : Nat} {L L' st : List Value} {h : am_H} {n k z : Nat} {x : List Nat} {y : Nat} {v : Value}
theorem am_cont {p : Program} {l : Launch} {e : Env} {R : Room} {s : State} {m : MethodId} {args : Array Value} {below : List Frame} {meth : Method} {c : Code} {H : Heap} {locs : List Loc} {mc' ms' : Nat} {st0 rest : List Value} {D : va_G} {as : Nat → Nat} {A : Nat → Prop} {Q' : Option Value → am_H → Nat → Prop} {a : Array Value} {ls : Array Slot} {Qw : State → Prop}
    (hr : va_Run p l e R s m args below meth c H locs k z mc' ms' (F0 m pc ls st0) rest (am_Q D as n (am_A as n H.size) Q' a) (am_A as n H.size)) (hS : va_S A s.heap H locs) (hA : ∀ q, am_A as n H.size q → A q)
    (kk : ∀ (v rv : Option Value) (h' : am_H) (n' : Nat) (as' : Nat → Nat) (H1 : Heap) (locs1 : List Loc), Q' v h' n' → am_Ro as' n' v rv → n' ≤ 1000 → am_E as as' n n' → am_W D as' n' h' A s H1 → va_S A s.heap H1 locs1 → W p l e R s m args below meth c H1 locs1 (k + mc') (z + ms') Qw (F0 m (pc + 3) ls (rv.toList ++ rest))) :
    W p l e R s m args below meth c H locs k z Qw (F0 m pc ls st0) := by
  intro T hT X
  obtain ⟨rv, st₀, t, T', LL, h0, X', hL, e1, e2, ⟨⟨v, rv', h', n', as', hv, hro, hQ, hW, hE, hn⟩, hz, hk⟩, st⟩ := hr T hT X
  cases hv
  rw [h0] at hz hk
  have hal : t.vm.Alike s.vm := by rw [← e2]; exact X'.warmed.alike.symm
  obtain ⟨t2, a1, b1⟩ := kk v rv h' n' as' T'.heap (locs ++ LL) hQ hro hn hE (by rw [e1]; exact (hW.moved hal).weaken hA)
    ⟨Nat.le_trans hS.1 (by rw [e1]; exact hz), fun q h1 h2 => by rw [e1, hk q (Nat.lt_of_lt_of_le h1 hS.1) (fun z => h2 (hA q z))]; exact hS.2.1 q h1 h2, fun q hq => by
      rcases List.mem_append.mp hq with h | h
      · exact hS.2.2 q h
      · exact hA _ (hL q h)⟩ T' rfl X'
  exact ⟨t2, st t2 a1, b1⟩
theorem am_Ro.app {as : Nat → Nat} {v rv : Option Value} {l m : List Value} (h : am_Ro as n v rv) (hl : am_Vs as n l m) : am_Vs as n (v.toList ++ l) (rv.toList ++ m) := by
  cases v with
  | none => cases rv with
    | none => exact hl
    | some _ => exact h.elim
  | some a => cases rv with
    | none => exact h.elim
    | some b => exact ⟨h, hl⟩
theorem G.callV {a q ci d' mc' ms' np : Nat} {qc : vw_C} {fs args : List Value} {M' : am_M} {Q' : Option Value → am_H → Nat → Prop} (hj : am_at M pc = some (.invokevirtual a, nx, x, y, v)) (hy : am_yn y = M'.1) (hC : am_okC2 M' 0 np) (hnp : args.length = np) (hq : q < n) (hh : h q = .inr (ci, fs)) (hc : vwCl[ci]? = some qc) (hcn : M'.1.cls = qc.1) (hd : d' + 1 ≤ d) (hk0 : k + mc' ≤ mc) (hz0 : z + ms' ≤ ms) (hcat : (st.map fun v => v.category).sum ≤ 8)
    (hcall : Call M' d' (.ref q :: args) h n mc' ms' Q') (kk : ∀ (v : Option Value) (h' : am_H) (n' : Nat), Q' v h' n' → G X M d Q mc ms nx L (v.toList ++ st) h' n' (k + mc') (z + ms')) : G X M d Q mc ms pc L (args.reverse ++ (.ref q :: st)) h n k z := by
  intro p l e R s m args0 below meth c Qw D as A H locs ls rst C E Z0 Wd S hk hl hst
  obtain ⟨hdc, hnx, hok⟩ := am_okM_dec C.2.2.2.2.2.2.2.2.2.2.2.2 hj
  obtain rfl : nx = pc + 3 := hnx
  obtain ⟨m1, m2, rfl, s1, s2⟩ := am_Vs.split hst
  obtain ⟨r0, rfl, g0, h0⟩ := am_Vr s2
  obtain ⟨ws, tys, w1, w2, w3, w4, w5⟩ := id Wd
  obtain ⟨en, w6, w7⟩ := w2 q hq
  rw [hh] at w7
  obtain ⟨fs', rfl, w8⟩ := w7
  obtain ⟨c1, c2, c3, c4, c5⟩ := hC
  have T := C.2.2.2.2.2.2.2.1
  have hM := hcall hk.2.2 l D as (.ref (as q) :: m1.reverse) H.size ⟨⟨g0, rfl⟩, by have := s1.rev; rwa [List.reverse_reverse] at this⟩
  have hlen : m1.reverse.length = np := by rw [List.length_reverse, s1.len, List.length_reverse]; exact hnp
  have hrec := va_recv w4 w3 hc w6
  have hA : ∀ q, am_A as n H.size q → A q := fun q hq => by
    rcases hq with ⟨k, hk, rfl⟩ | hq
    · exact Wd.inA k hk
    · exact Z0.1 q (Nat.le_trans S.1 hq)
  have hp : PreV s H qc.1 (as q) (va_Pc (.ref (as q) :: m1.reverse) (am_B D as n h H.size)) m1.reverse := ⟨am_blind, hrec, fun U hU hW => ⟨rfl, am_pre Z0.1 Z0.2.1 Wd S hU hW⟩⟩
  have hR : (am_rm d' mc' ms').frames + 1 ≤ R.frames ∧ 8 + (M'.2.2.1 + 11) + (am_rm d' mc' ms').locals ≤ R.locals := ⟨by have := C.2.2.2.2.2.2.2.2.1; show d' + 1 ≤ R.frames; omega, by have := C.2.2.2.2.2.2.2.2.2.1; show 8 + (M'.2.2.1 + 11) + 40 * d' ≤ R.locals; omega⟩
  have hf : k + mc' ≤ R.cells ∧ z + ms' ≤ R.slots := ⟨Nat.le_trans hk0 C.2.2.2.2.2.2.2.2.2.2.1, Nat.le_trans hz0 C.2.2.2.2.2.2.2.2.2.2.2.1⟩
  have hst2 : m1 ++ Value.ref (as q) :: r0 = m1.reverse.reverse ++ Value.ref (as q) :: r0 := by rw [List.reverse_reverse]
  have hroom : 2 * (F0 m pc ls (m1 ++ Value.ref (as q) :: r0)).monitorRoom + (r0.map fun v => v.category).sum ≤ 8 := lv_room (by rw [h0.cat]; exact hcat)
  have fin : ∀ hr : va_Run p l e R s m args0 below meth c H locs k z mc' ms' (F0 m pc ls (m1 ++ Value.ref (as q) :: r0)) r0 (am_Q D as n (am_A as n H.size) Q' (Value.ref (as q) :: m1.reverse).toArray) (am_A as n H.size), W p l e R s m args0 below meth c H locs k z Qw (F0 m pc ls (m1 ++ Value.ref (as q) :: r0)) := fun hr =>
    am_cont hr S hA (fun v rv h' n' as' H1 locs1 hQ hro hn hE hW hS => kk v h' n' hQ p l e R s m args0 below meth c Qw D as' A H1 locs1 ls _ C (E.to hE) ⟨Z0.1, Z0.2.1.ext hE, Z0.2.2.to hE⟩ hW hS ⟨hk0, hz0, hn⟩ (hl.mono hE) (hro.app (h0.mono hE)))
  have hlk0 := am_link_spec C.2.2.2.2.2.2.2.2.2.2.2.2.2 (show am_link M.2.2.2.2.1.2 a x y = true from hok)
  rw [hy] at hlk0
  rcases hlk0 with hlk | ⟨host, hlk⟩
  · exact fin (va_runV (Ts := lw_T) ⟨C.1, C.2.1, C.2.2.1, C.2.2.2.2.2.2.1, T⟩ hM ⟨callB_of np T (am_good c1) rfl rfl rfl (T _ c2) (T _ hlk) c3 hR, T _ c5.1, by rw [← hcn]; exact T _ c5.2⟩ hp rfl hlen hl.2.choose_spec.1.1 hst2 hroom hdc hf)
  · exact fin (va_runVN (Ts := lw_T) ⟨C.1, C.2.1, C.2.2.1, C.2.2.2.2.2.2.1, T⟩ hM ⟨va_cnB np T (am_good c1) rfl rfl rfl (Z0.2.1.2.2.2.2.2.2 _ hlk rfl) (T _ c2) c3 hR, T _ c5.1, by rw [← hcn]; exact T _ c5.2⟩ hp rfl hlen hl.2.choose_spec.1.1 hst2 hroom hdc hf)
theorem G.callS {a d' mc' ms' np : Nat} {args : List Value} {M' : am_M} {Q' : Option Value → am_H → Nat → Prop} (hj : am_at M pc = some (.invokestatic a, nx, x, y, v)) (hy : am_yn y = M'.1) (hC : am_okC2 M' 1 np) (hnp : args.length = np) (hd : d' + 1 ≤ d) (hk0 : k + mc' ≤ mc) (hz0 : z + ms' ≤ ms) (hcat : (st.map fun v => v.category).sum ≤ 8)
    (hcall : Call M' d' args h n mc' ms' Q') (kk : ∀ (v : Option Value) (h' : am_H) (n' : Nat), Q' v h' n' → G X M d Q mc ms nx L (v.toList ++ st) h' n' (k + mc') (z + ms')) : G X M d Q mc ms pc L (args.reverse ++ st) h n k z := by
  intro p l e R s m args0 below meth c Qw D as A H locs ls rst C E Z0 Wd S hk hl hst
  obtain ⟨hdc, hnx, hok⟩ := am_okM_dec C.2.2.2.2.2.2.2.2.2.2.2.2 hj
  obtain rfl : nx = pc + 3 := hnx
  obtain ⟨m1, r0, rfl, s1, h0⟩ := am_Vs.split hst
  obtain ⟨c1, c2, c3, c4, c5⟩ := hC
  have T := C.2.2.2.2.2.2.2.1
  have hM := hcall hk.2.2 l D as m1.reverse H.size (by have := s1.rev; rwa [List.reverse_reverse] at this)
  have hlen : m1.reverse.length = np := by rw [List.length_reverse, s1.len, List.length_reverse]; exact hnp
  have hA : ∀ q, am_A as n H.size q → A q := fun q hq => by
    rcases hq with ⟨k, hk, rfl⟩ | hq
    · exact Wd.inA k hk
    · exact Z0.1 q (Nat.le_trans S.1 hq)
  have hp : PreS s H (va_Pc m1.reverse (am_B D as n h H.size)) m1.reverse := ⟨am_blind, fun U hU hW => ⟨rfl, am_pre Z0.1 Z0.2.1 Wd S hU hW⟩⟩
  have hR : (am_rm d' mc' ms').frames + 1 ≤ R.frames ∧ 8 + (M'.2.2.1 + 11) + (am_rm d' mc' ms').locals ≤ R.locals := ⟨by have := C.2.2.2.2.2.2.2.2.1; show d' + 1 ≤ R.frames; omega, by have := C.2.2.2.2.2.2.2.2.2.1; show 8 + (M'.2.2.1 + 11) + 40 * d' ≤ R.locals; omega⟩
  have hf : k + mc' ≤ R.cells ∧ z + ms' ≤ R.slots := ⟨Nat.le_trans hk0 C.2.2.2.2.2.2.2.2.2.2.1, Nat.le_trans hz0 C.2.2.2.2.2.2.2.2.2.2.2.1⟩
  have hst2 : m1 ++ r0 = m1.reverse.reverse ++ r0 := by rw [List.reverse_reverse]
  have hroom : 2 * (F0 m pc ls (m1 ++ r0)).monitorRoom + (r0.map fun v => v.category).sum ≤ 8 := lv_room (by rw [h0.cat]; exact hcat)
  have fin : ∀ hr : va_Run p l e R s m args0 below meth c H locs k z mc' ms' (F0 m pc ls (m1 ++ r0)) r0 (am_Q D as n (am_A as n H.size) Q' m1.reverse.toArray) (am_A as n H.size), W p l e R s m args0 below meth c H locs k z Qw (F0 m pc ls (m1 ++ r0)) := fun hr =>
    am_cont hr S hA (fun v rv h' n' as' H1 locs1 hQ hro hn hE hW hS => kk v h' n' hQ p l e R s m args0 below meth c Qw D as' A H1 locs1 ls _ C (E.to hE) ⟨Z0.1, Z0.2.1.ext hE, Z0.2.2.to hE⟩ hW hS ⟨hk0, hz0, hn⟩ (hl.mono hE) (hro.app (h0.mono hE)))
  have hlk0 := am_link_spec C.2.2.2.2.2.2.2.2.2.2.2.2.2 (show am_link M.2.2.2.2.1.2 a x y = true from hok)
  rw [hy] at hlk0
  rcases hlk0 with hlk | ⟨host, hlk⟩
  · exact fin (va_runS (Ts := lw_T) ⟨C.1, C.2.1, C.2.2.1, C.2.2.2.2.2.2.1, T⟩ hM ⟨callB_of np T (am_good c1) rfl rfl rfl (T _ c2) (T _ hlk) c3 hR, T _ c5⟩ hp rfl hlen hl.2.choose_spec.1.1 hst2 hroom hdc hf)
  · exact fin (va_runSN (Ts := lw_T) ⟨C.1, C.2.1, C.2.2.1, C.2.2.2.2.2.2.1, T⟩ hM ⟨va_cnB np T (am_good c1) rfl rfl rfl (Z0.2.1.2.2.2.2.2.2 _ hlk rfl) (T _ c2) c3 hR, T _ c5, trivial⟩ hp rfl hlen hl.2.choose_spec.1.1 hst2 hroom hdc hf)
theorem G.callI {a q d' mc' ms' np : Nat} {args : List Value} {M' : am_M} {Q' : Option Value → am_H → Nat → Prop} (hj : am_at M pc = some (.invokespecial a, nx, x, y, v)) (hy : am_yn y = M'.1) (hC : am_okC2 M' 2 np) (hnp : args.length = np) (hd : d' + 1 ≤ d) (hk0 : k + mc' ≤ mc) (hz0 : z + ms' ≤ ms) (hcat : (st.map fun v => v.category).sum ≤ 8)
    (hcall : Call M' d' (.ref q :: args) h n mc' ms' Q') (kk : ∀ (v : Option Value) (h' : am_H) (n' : Nat), Q' v h' n' → G X M d Q mc ms nx L (v.toList ++ st) h' n' (k + mc') (z + ms')) : G X M d Q mc ms pc L (args.reverse ++ (.ref q :: st)) h n k z := by
  intro p l e R s m args0 below meth c Qw D as A H locs ls rst C E Z0 Wd S hk hl hst
  obtain ⟨hdc, hnx, hok⟩ := am_okM_dec C.2.2.2.2.2.2.2.2.2.2.2.2 hj
  obtain rfl : nx = pc + 3 := hnx
  obtain ⟨m1, m2, rfl, s1, s2⟩ := am_Vs.split hst
  obtain ⟨r0, rfl, g0, h0⟩ := am_Vr s2
  obtain ⟨c1, c2, c3, c4, c5⟩ := hC
  have T := C.2.2.2.2.2.2.2.1
  obtain ⟨y0, B0, nL0, ret0, len0, tb0⟩ := M'
  obtain ⟨c6, c7, rfl⟩ := c5
  have hM := hcall hk.2.2 l D as (.ref (as q) :: m1.reverse) H.size ⟨⟨g0, rfl⟩, by have := s1.rev; rwa [List.reverse_reverse] at this⟩
  have hlen : m1.reverse.length = np := by rw [List.length_reverse, s1.len, List.length_reverse]; exact hnp
  have hA : ∀ q, am_A as n H.size q → A q := fun q hq => by
    rcases hq with ⟨k, hk, rfl⟩ | hq
    · exact Wd.inA k hk
    · exact Z0.1 q (Nat.le_trans S.1 hq)
  have hp : PreS s H (va_Pc (.ref (as q) :: m1.reverse) (am_B D as n h H.size)) (.ref (as q) :: m1.reverse) := ⟨am_blind, fun U hU hW => ⟨rfl, am_pre Z0.1 Z0.2.1 Wd S hU hW⟩⟩
  have hR : (am_rm d' mc' ms').frames + 1 ≤ R.frames ∧ 8 + (nL0 + 11) + (am_rm d' mc' ms').locals ≤ R.locals := ⟨by have := C.2.2.2.2.2.2.2.2.1; show d' + 1 ≤ R.frames; omega, by have := C.2.2.2.2.2.2.2.2.2.1; have c4' : nL0 ≤ 21 := c4; show 8 + (nL0 + 11) + 40 * d' ≤ R.locals; omega⟩
  have hf : k + mc' ≤ R.cells ∧ z + ms' ≤ R.slots := ⟨Nat.le_trans hk0 C.2.2.2.2.2.2.2.2.2.2.1, Nat.le_trans hz0 C.2.2.2.2.2.2.2.2.2.2.2.1⟩
  have hst2 : m1 ++ Value.ref (as q) :: r0 = m1.reverse.reverse ++ Value.ref (as q) :: r0 := by rw [List.reverse_reverse]
  have hroom : 2 * (F0 m pc ls (m1 ++ Value.ref (as q) :: r0)).monitorRoom + (r0.map fun v => v.category).sum ≤ 8 := lv_room (by rw [h0.cat]; exact hcat)
  have fin : ∀ hr : va_Run p l e R s m args0 below meth c H locs k z mc' ms' (F0 m pc ls (m1 ++ Value.ref (as q) :: r0)) r0 (am_Q D as n (am_A as n H.size) Q' (Value.ref (as q) :: m1.reverse).toArray) (am_A as n H.size), W p l e R s m args0 below meth c H locs k z Qw (F0 m pc ls (m1 ++ Value.ref (as q) :: r0)) := fun hr =>
    am_cont hr S hA (fun v rv h' n' as' H1 locs1 hQ hro hn hE hW hS => kk v h' n' hQ p l e R s m args0 below meth c Qw D as' A H1 locs1 ls _ C (E.to hE) ⟨Z0.1, Z0.2.1.ext hE, Z0.2.2.to hE⟩ hW hS ⟨hk0, hz0, hn⟩ (hl.mono hE) (hro.app (h0.mono hE)))
  have hlk0 := am_link_spec C.2.2.2.2.2.2.2.2.2.2.2.2.2 (show am_link M.2.2.2.2.1.2 a x y = true from hok)
  rw [hy] at hlk0
  rcases hlk0 with hlk | ⟨host, hlk⟩
  · exact fin (va_runI (Ts := lw_T) ⟨C.1, C.2.1, C.2.2.1, C.2.2.2.2.2.2.1, T⟩ hM ⟨callB_of np T (am_good c1) rfl rfl rfl (T _ c2) (T _ hlk) c3 hR, c7, T _ c6⟩ hp rfl hlen hl.2.choose_spec.1.1 hst2 hroom hdc hf)
  · exact fin (va_runIN (Ts := lw_T) ⟨C.1, C.2.1, C.2.2.1, C.2.2.2.2.2.2.1, T⟩ hM ⟨va_cnB np T (am_good c1) rfl rfl rfl (Z0.2.1.2.2.2.2.2.2 _ hlk rfl) (T _ c2) c3 hR, c7, T _ c6⟩ hp rfl hlen hl.2.choose_spec.1.1 hst2 hroom hdc hf)
theorem G.objI {a q i b : Nat} (hj : am_at M pc = some (.invokespecial a, nx, [0, i, b], 0, v)) (hin : Cond.instanceMethod Lib.objectInit ∈ lw_T) (hcd : Cond.code Lib.objectInit ⟨#[0xb1]⟩ 1 none ∈ lw_T) (hd : 1 ≤ d) (hcat : (st.map fun v => v.category).sum ≤ 8) (kk : G X M d Q mc ms nx L st h n k z) : G X M d Q mc ms pc L (.ref q :: st) h n k z := by
  intro p l e R s m args0 below meth c Qw D as A H locs ls rst C E Z0 Wd S hk hl hst
  obtain ⟨hdc, hnx, hok⟩ := am_okM_dec C.2.2.2.2.2.2.2.2.2.2.2.2 hj
  obtain rfl : nx = pc + 3 := hnx
  obtain ⟨r0, rfl, g0, h0⟩ := am_Vr hst
  have T := C.2.2.2.2.2.2.2.1
  have hlk : Cond.methodLink M.1.cls a Lib.objectInit ∈ lw_T := by
    have h5 : decide (am_pw i = some (2, M.2.2.2.2.1.2, a, 0, 0)) = true := hok
    rw [← C.2.2.2.2.2.2.2.2.2.2.2.2.2]
    exact am_pw_T (of_decide_eq_true h5) rfl
  have h1 : 2 * (F0 m pc ls (Value.ref (as q) :: r0)).monitorRoom + (r0.map fun v => v.category).sum ≤ 8 := lv_room (by rw [h0.cat]; exact hcat)
  refine W.objInit C.1 C.2.1 C.2.2.2.2.2.2.1 (T _ hlk) (T _ hin) (T _ hcd) rfl (hl.2.choose_spec.1.1.trans C.2.2.1.symm) rfl hdc (Nat.le_trans hd C.2.2.2.2.2.2.2.2.1) ?_ (kk p l e R s m args0 below meth c Qw D as A H locs ls _ C E Z0 Wd S hk hl h0)
  have := C.2.2.2.2.2.2.2.2.2.1
  omega
end GC
