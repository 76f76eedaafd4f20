/-! THE CLAIM OUT OF ONE WALK OF THE LAW'S BODY. Your part is whole_start (and what it stands on); all else here is the same for every law, but numbers. -/
def R_law : String := "SidelessTownLaw"
def lw_P (b : Addr) (xs : List Int32) (args : Array Value) (s : State) : Prop := args = #[.ref b] ∧ s.IntsAt b xs ∧ xs.length ≤ 3072 ∧ (Jvm.Cond.and given_1 narrow_1).before args s = true
def lw_Q (_ : Array Value) (s : State) (o : Outcome) (t : State) : Prop := o = .returned (some (.int 1)) ∧ Framed s o t [] 600000 7302250
def lw_Z (below : List Frame) (a : Array Value) (s : State) : State → Prop := fun t => ∃ o, t.status = .running ∧ Ended t below o ∧ lw_Q a s o t
/-- the law's own end, with 1 on the stack, nothing written that was there before, its room as the claim has it -/
theorem lw_ret {p : Program} {l : Launch} {e : Env} {s : State} {m : MethodId} {below : List Frame} {meth : Method} {c : Code} {b : Nat} (hx : p.tables.exec = Jvm.exec) (hb : c.code = code) (hr : meth.sig.returnType = ret) (hlocks : meth.locks = false) {pc : Nat} {H : Heap} {ls : Array Slot} (hdg : decode code pc = .ok (.ireturn, 1)) : W p l e room_1 s m #[Value.ref b] below meth c H [] 600000 7302250 (lw_Z below #[Value.ref b] s) (F0 m pc ls [.int 1]) := by
  intro T hT X
  obtain ⟨fs, hret, hrun, hended, hW, hframe⟩ := X.leave (v := some (.int 1)) (hlocks := hlocks) (fun h => by rw [hr] at h; cases h)
  have hmeth' : T.vm.method? m = some meth := X.method'
  refine ⟨T.setFrames fs, ?_, .returned (some (.int 1)), hrun, hended, rfl, ⟨_, rfl⟩, hW, hframe⟩
  jvm_step X.here [X.here.top, hx, hb, hdg, hmeth', hr, ret, narrow_b1]
  (try refine ⟨rfl, ?_⟩); (try refine ⟨rfl, ?_⟩)
  first | (intro acts; rw [hret _ acts rfl rfl rfl]) | rw [hret _ _ rfl rfl rfl]
  exact Steps.refl _
/-- what holds at the law's entry: the machine, the code, the tables' words (any of lw_tbl by 'hts w (by decide +kernel)'), the script of L ints xs at the cell b, what the Statement gives of the start (any of its parts by flat_of_before) -/
def lw_At (p : Program) (s : State) (m : MethodId) (meth : Method) (c : Code) (b L : Nat) (xs : Nat → Int32) : Prop :=
  p.tables.exec = Jvm.exec ∧ c.code = code ∧ meth.sig.returnType = ret ∧ c.maxLocals = 4 ∧ s.vm.findClass R_law = some m.cls ∧ (∀ w ∈ lw_tbl, w.before #[Value.ref b] s = true) ∧ va_X b L xs s s.heap ∧ b < s.heap.size ∧ meth.locks = false ∧ (Jvm.Cond.and given_1 narrow_1).before #[Value.ref b] s = true ∧ meth.name = "law"
theorem st_kn {s : State} {args : Array Value} (hts : ∀ w ∈ lw_T, w.before args s = true) (c0 : ClassId) : ∃ D : va_G, ∀ (k : Nat) (q : vw_C), vwCl[k]? = some q → u_Kn s q.1 q.2.1 q.2.2 (D.1 k) (D.2 k) := by
  have h0 : ∀ k : Nat, ∃ r : ClassId × (Nat → Nat), ∀ q : vw_C, vwCl[k]? = some q → u_Kn s q.1 q.2.1 q.2.2 r.1 r.2 := by
    intro k
    match k with
    | 0 =>
      obtain ⟨c, i, h⟩ := u_known (C := RX0) (T := TX0) (N := 6) (n := 6) hts inX0 (hts _ (lw_T_in2 (lw_m2 (i := 36) rfl) rfl))
      exact ⟨(c, i), fun q hq => by cases hq; exact h⟩
    | 1 =>
      obtain ⟨c, i, h⟩ := u_known (C := RX1) (T := TX1) (N := 8) (n := 8) hts inX1 (hts _ (lw_T_in2 (lw_m1 (i := 190) rfl) rfl))
      exact ⟨(c, i), fun q hq => by cases hq; exact h⟩
    | 2 =>
      obtain ⟨c, i, h⟩ := u_known (C := RX2) (T := TX2) (N := 3) (n := 3) hts inX2 (hts _ (lw_T_in2 (lw_m1 (i := 129) rfl) rfl))
      exact ⟨(c, i), fun q hq => by cases hq; exact h⟩
    | 3 =>
      obtain ⟨c, i, h⟩ := u_known (C := RX3) (T := TX3) (N := 5) (n := 5) hts inX3 (hts _ (lw_T_in2 (lw_m2 (i := 14) rfl) rfl))
      exact ⟨(c, i), fun q hq => by cases hq; exact h⟩
    | 4 =>
      obtain ⟨c, i, h⟩ := u_known (C := RX4) (T := TX4) (N := 3) (n := 3) hts inX4 (hts _ (lw_T_in2 (lw_m1 (i := 28) rfl) rfl))
      exact ⟨(c, i), fun q hq => by cases hq; exact h⟩
    | 5 =>
      obtain ⟨c, i, h⟩ := u_known (C := RX5) (T := TX5) (N := 2) (n := 2) hts inX5 (hts _ (lw_T_in2 (lw_m1 (i := 116) rfl) rfl))
      exact ⟨(c, i), fun q hq => by cases hq; exact h⟩
    | 6 =>
      obtain ⟨c, i, h⟩ := u_known (C := RX6) (T := TX6) (N := 8) (n := 8) hts inX6 (hts _ (lw_T_in2 (lw_m1 (i := 221) rfl) rfl))
      exact ⟨(c, i), fun q hq => by cases hq; exact h⟩
    | 7 =>
      obtain ⟨c, i, h⟩ := u_known (C := RX7) (T := TX7) (N := 10) (n := 10) hts inX7 (hts _ (lw_T_in2 (lw_m1 (i := 48) rfl) rfl))
      exact ⟨(c, i), fun q hq => by cases hq; exact h⟩
    | 8 =>
      obtain ⟨c, i, h⟩ := u_known (C := RX8) (T := TX8) (N := 8) (n := 8) hts inX8 (hts _ (lw_T_in2 (lw_m1 (i := 85) rfl) rfl))
      exact ⟨(c, i), fun q hq => by cases hq; exact h⟩
    | 9 =>
      obtain ⟨c, i, h⟩ := u_known (C := RX9) (T := TX9) (N := 6) (n := 6) hts inX9 (hts _ (lw_T_in2 (lw_m1 (i := 155) rfl) rfl))
      exact ⟨(c, i), fun q hq => by cases hq; exact h⟩
    | 10 =>
      obtain ⟨c, i, h⟩ := u_known (C := RX10) (T := TX10) (N := 3) (n := 3) hts inX10 (hts _ (lw_T_in2 (lw_m1 (i := 149) rfl) rfl))
      exact ⟨(c, i), fun q hq => by cases hq; exact h⟩
    | 11 =>
      obtain ⟨c, i, h⟩ := u_known (C := RX11) (T := TX11) (N := 14) (n := 14) hts inX11 (hts _ (lw_T_in2 (lw_m1 (i := 20) rfl) rfl))
      exact ⟨(c, i), fun q hq => by cases hq; exact h⟩
    | 12 =>
      obtain ⟨c, i, h⟩ := u_known (C := RX12) (T := TX12) (N := 41) (n := 41) hts inX12 (hts _ (lw_T_in2 (lw_m5 (i := 187) rfl) rfl))
      exact ⟨(c, i), fun q hq => by cases hq; exact h⟩
    | k + 13 => exact ⟨(c0, fun _ => 0), fun q hq => by simp [vwCl] at hq⟩
  obtain ⟨f, hf⟩ := Classical.axiomOfChoice h0
  exact ⟨(fun k => (f k).1, fun k => (f k).2), hf⟩
def st_fl : List Cond := flatC (Jvm.Cond.and given_1 narrow_1)
def st_tm (i : Nat) : Term := .string RX7 (am_tx i).1
set_option maxRecDepth 100000 in
theorem st_1 : ∀ i : Fin 12, Cond.exactly (st_tm i.val) "java/lang/String" ∈ st_fl := by decide +kernel
set_option maxRecDepth 100000 in
theorem st_2 : ∀ i : Fin 12, Cond.eq (.field (st_tm i.val) "java/lang/String" "coder" "B") (.int 0) ∈ st_fl := by decide +kernel
set_option maxRecDepth 100000 in
theorem st_3 : ∀ i : Fin 12, Cond.arrayOf (.field (st_tm i.val) "java/lang/String" "value" "[B") .byte ∈ st_fl := by decide +kernel
set_option maxRecDepth 100000 in
theorem st_4 : ∀ i : Fin 12, Cond.eq (.length (.field (st_tm i.val) "java/lang/String" "value" "[B")) (.int (Int32.ofNat (am_lens.getD i.val 0))) ∈ st_fl := by decide +kernel
set_option maxRecDepth 100000 in
theorem st_5 : ∀ i : Fin 12, ∀ j : Fin 6, j.val < am_lens.getD i.val 0 → Cond.eq (.elem (.field (st_tm i.val) "java/lang/String" "value" "[B") (.int (Int32.ofNat j.val))) (.int ((am_byt.getD i.val []).getD j.val 0)) ∈ st_fl := by decide +kernel
set_option maxRecDepth 100000 in
theorem st_6 : ∀ i j : Fin 12, i.val ≠ j.val → Cond.not (Cond.eq (st_tm i.val) (st_tm j.val)) ∈ st_fl ∨ Cond.not (Cond.eq (st_tm j.val) (st_tm i.val)) ∈ st_fl := by decide +kernel
def st_wy : Term := .static RX11 "WAYS" "[I"
set_option maxRecDepth 100000 in
theorem st_7 : Cond.arrayOf st_wy .int ∈ st_fl ∧ Cond.eq (.length st_wy) (.int (Int32.ofNat 17)) ∈ st_fl ∧ ∀ j : Fin 17, Cond.eq (.elem st_wy (.int (Int32.ofNat j.val))) (.int (am_ways.getD j.val 0)) ∈ st_fl := by decide +kernel
set_option maxRecDepth 100000 in
theorem st_8 : Cond.eq (.static "java/lang/String" "COMPACT_STRINGS" "Z") (.int 1) ∈ st_fl ∧ Cond.isRef (.static "jdk/internal/util/Preconditions" "SIOOBE_FORMATTER" "Ljava/util/function/BiFunction;") ∈ st_fl := by decide +kernel
theorem st_ref {args : Array Value} {s : State} {t : Term} (h : (Cond.isRef t).before args s = true) : (∃ a : Nat, t.eval args s none [] s = some (.ref a)) ∨ t.eval args s none [] s = some .null := by
  cases hv : t.eval args s none [] s with
  | none => simp [Cond.before, Cond.holds, Cond.value, hv] at h
  | some w =>
    simp only [Cond.before, Cond.holds, Cond.value, hv] at h
    cases w <;> simp_all
theorem st_nest {w : Cond} (hn : am_nest w = true) {args : Array Value} {s : State} (h : w.before args s = true) : va_Nw w s := by
  cases w <;> first | exact h | (exact absurd hn (by decide)) | (simp [am_nest] at hn)
set_option maxRecDepth 100000 in
theorem st_R : ∀ i : Fin 12, Cond.stringRef RX7 (am_tx i.val).1 (am_tx i.val).2.1 ∈ lw_tbl := by
  intro i
  obtain ⟨i, hi⟩ := i
  rcases jl12 hi with rfl | rfl | rfl | rfl | rfl | rfl | rfl | rfl | rfl | rfl | rfl | rfl
  · exact (lw_m2 (i := 239) rfl)
  · exact (lw_m3 (i := 0) rfl)
  · exact (lw_m3 (i := 1) rfl)
  · exact (lw_m3 (i := 2) rfl)
  · exact (lw_m3 (i := 3) rfl)
  · exact (lw_m3 (i := 4) rfl)
  · exact (lw_m3 (i := 5) rfl)
  · exact (lw_m3 (i := 6) rfl)
  · exact (lw_m3 (i := 7) rfl)
  · exact (lw_m3 (i := 8) rfl)
  · exact (lw_m3 (i := 9) rfl)
  · exact (lw_m3 (i := 10) rfl)
def st_as (b t t1 : Nat) (ak av : Nat → Nat) : Nat → Nat := fun k => if k = 4000 then b else if k = 3000 then t else if k = 3001 then t1 else if k < 2000 then ak (k - 1000) else av (k - 2000)
theorem st_Z {b : Nat} {s : State} {A : Nat → Prop} (hA : ∀ a : Nat, a < s.heap.size → ¬ A a) (hts : ∀ w ∈ lw_tbl, w.before #[Value.ref b] s = true) (hgv : (Jvm.Cond.and given_1 narrow_1).before #[Value.ref b] s = true) : ∃ as : Nat → Nat, as 4000 = b ∧ am_Z as A s s.heap := by
  have hf : ∀ w ∈ st_fl, w.before #[Value.ref b] s = true := flat_of_before _ hgv
  obtain ⟨adK, adV, h1, h2⟩ := vk_Sof (args := #[Value.ref b]) (s := s) (N := 12) (tm := st_tm) (len := am_lens) (byt := am_byt) (A := A) (fun i hi => by have := jlen_6 ⟨i, hi⟩; dsimp only at this; omega) (fun i hi => hf _ (st_1 ⟨i, hi⟩)) (fun i hi => hf _ (st_2 ⟨i, hi⟩)) (fun i hi => hf _ (st_3 ⟨i, hi⟩)) (fun i hi => hf _ (st_4 ⟨i, hi⟩)) (fun i hi j hj => hf _ (st_5 ⟨i, hi⟩ ⟨j, by have := jlen_6 ⟨i, hi⟩; dsimp only at this; omega⟩ hj)) (fun i j hi hj hij => (st_6 ⟨i, hi⟩ ⟨j, hj⟩ hij).imp (hf _) (hf _)) hA
  obtain ⟨t, t2, t3⟩ := va_Tof (args := #[Value.ref b]) (s := s) (tm := st_wy) (ty := .int) (N := 17) (f := fun j => .int (am_ways.getD j 0)) (A := A) (by decide) (hf _ st_7.1) (va_eqt (hf _ st_7.2.1)) (fun j hj => va_eqt (hf _ (st_7.2.2 ⟨j, hj⟩))) hA
  obtain ⟨t1, t4⟩ : ∃ t1 : Nat, (Term.static "jdk/internal/util/Preconditions" "SIOOBE_FORMATTER" "Ljava/util/function/BiFunction;").eval #[Value.ref b] s none [] s = some (.ref t1) ∨ (Term.static "jdk/internal/util/Preconditions" "SIOOBE_FORMATTER" "Ljava/util/function/BiFunction;").eval #[Value.ref b] s none [] s = some .null := by
    rcases st_ref (hf _ st_8.2) with ⟨a, h⟩ | h
    · exact ⟨a, Or.inl h⟩
    · exact ⟨0, Or.inr h⟩
  refine ⟨st_as b t t1 adK adV, rfl, va_Zof (hts _ (lw_m4 (i := 156) rfl)) (hts _ (lw_m1 (i := 1) rfl)) t2 hA, t3, va_Zof (hts _ (lw_m3 (i := 24) rfl)) (hts _ (lw_m1 (i := 14) rfl)) (va_eqi (hf _ st_8.1)) hA, t4.imp (fun h => va_Zof (hts _ (lw_m3 (i := 40) rfl)) (hts _ (lw_m1 (i := 16) rfl)) h hA) (fun h => va_Zof (hts _ (lw_m3 (i := 40) rfl)) (hts _ (lw_m1 (i := 16) rfl)) h hA), ?_, ?_, fun w hw hn => st_nest hn (hts w hw)⟩
  · have e1 : ∀ i, i < 12 → st_as b t t1 adK adV (1000 + i) = adK i := fun i hi => by
      unfold st_as
      rw [if_neg (by omega), if_neg (by omega), if_neg (by omega), if_pos (by omega), Nat.add_sub_cancel_left]
    have e2 : ∀ i, i < 12 → st_as b t t1 adK adV (2000 + i) = adV i := fun i hi => by
      unfold st_as
      rw [if_neg (by omega), if_neg (by omega), if_neg (by omega), if_neg (by omega), Nat.add_sub_cancel_left]
    refine ⟨fun i hi => ?_, fun i j hi hj e => ?_⟩
    · dsimp only
      rw [e1 i hi, e2 i hi]
      exact h1.1 i hi
    · dsimp only at e
      rw [e1 i hi, e1 j hj] at e
      exact h1.2 i j hi hj e
  · intro i hi
    have e1 : st_as b t t1 adK adV (1000 + i) = adK i := by
      unfold st_as
      rw [if_neg (by omega), if_neg (by omega), if_neg (by omega), if_pos (by omega), Nat.add_sub_cancel_left]
    rw [e1]
    exact vk_R.of (hts _ (st_R ⟨i, hi⟩)) (h2 i hi)
theorem st_ret {i : Instr} {rv : Option Value} (h : am_ret ret i rv) (hv : rv = some (.int 1)) : i = .ireturn := by
  subst hv
  unfold am_ret at h
  split at h
  · exact absurd h.2 (by simp)
  · rfl
  · obtain ⟨v, h1, -⟩ := h
    cases h1
  · obtain ⟨a, ty, h1, -⟩ := h
    cases h1
  · exact h.elim
/-- the law, from its entry -/
theorem whole_start {p : Program} {e : Env} {s : State} {m : MethodId} {below : List Frame} {meth : Method} {c : Code} (l : Launch) (hflags : l.flags = flags0) {b L : Nat} {xs : Nat → Int32} (hL : L ≤ 3072) (C0 : lw_At p s m meth c b L xs) : W p l e room_1 s m #[Value.ref b] below meth c s.heap [] 0 0 (lw_Z below #[Value.ref b] s) (entryFrame m ([Value.ref b] : List Value).toArray 4) := by
  obtain ⟨hx, hb, hr, hml, hown, hts, hX, hbl, hlocks, hgv, hnm⟩ := id C0
  have hA : ∀ q : Nat, s.heap.size ≤ q → (fun q : Nat => s.heap.size ≤ q) q := fun _ h => h
  have hA' : ∀ a : Nat, a < s.heap.size → ¬ (fun q : Nat => s.heap.size ≤ q) a := fun a h => Nat.not_le.mpr h
  have htsT : ∀ w ∈ lw_T, w.before #[Value.ref b] s = true := fun w hw => hts w (lw_T_in hw)
  obtain ⟨D, hD⟩ := st_kn htsT m.cls
  obtain ⟨as, has, hZ⟩ := st_Z (A := fun q : Nat => s.heap.size ≤ q) hA' hts hgv
  have hl := lv_entry ([.ref b]) (n := 4) (Nat.le_of_ble_eq_true rfl)
  rw [lg_entry_eq]
  refine law_all (N := L) (xs := xs) (by omega) (am_mk am_S0) p l e room_1 s m _ below meth c _ D as (fun q : Nat => s.heap.size ≤ q) s.heap [] _ [] ⟨hx, hb, hml, hr, hlocks, hnm, hown, htsT, Nat.le_of_ble_eq_true rfl, Nat.le_of_ble_eq_true rfl, Nat.le_refl _, Nat.le_refl _, kL_law⟩ ?_ ⟨hA, hZ, ?_⟩ ⟨[], [], rfl, fun k hk => absurd hk (Nat.not_lt_zero _), fun k q h => by simp at h, ⟨hD, fun k q h => by simp at h⟩, ⟨fun i j p q h => by simp at h, fun k q h => by simp at h⟩⟩ va_S.rf ⟨Nat.zero_le _, Nat.zero_le _, Nat.zero_le _⟩ ⟨rfl, [(0, .ref b)], hl, ?_⟩ trivial
  · intro H locs as' n' h' v rv pc ls i hd hret hro hQ hW hE hS
    have hrv : rv = some (.int 1) := by
      subst hQ
      cases rv with
      | none => exact hro.elim
      | some r => exact congrArg some hro
    have hi := st_ret hret hrv
    subst hrv hi
    exact va_forget (fun q hq => hS.2.2 q hq) (lw_ret hx hb hr hlocks hd)
  · exact ⟨by rw [has]; exact hX, by rw [has]; exact hbl, by rw [has]; exact hA' b hbl⟩
  · intro i v hi hv
    rcases i with _ | i
    · cases hi
      exact ⟨.ref b, List.mem_cons_self, Or.inr (by decide), by rw [has]⟩
    · exfalso
      rcases (show i = 0 ∨ i = 1 ∨ i = 2 ∨ 3 ≤ i by omega) with rfl | rfl | rfl | h3
      · cases hi; exact hv rfl
      · cases hi; exact hv rfl
      · cases hi; exact hv rfl
      · rw [List.getElem?_eq_none (show ([Value.ref 4000, .retAddr 0, .retAddr 0, .retAddr 0] : List Value).length ≤ i + 1 by show 4 ≤ i + 1; omega)] at hi
        cases hi
