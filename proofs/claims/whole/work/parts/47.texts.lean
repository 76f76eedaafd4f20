section GCT
variable {X : am_X0} {M : am_M} {d : Nat} {Q : Option Value → am_H → Nat → Prop} {mc ms pc nx : Nat} {L L' st : List Value} {h : am_H} {n k z : Nat} {x : List Nat} {y : Nat} {v : Value}
theorem G.callT {a q i d' mc' ms' np : Nat} {args : List Value} {M' : am_M} {Q' : Option Value → am_H → Nat → Prop} (hj : am_at M pc = some (.invokevirtual a, nx, x, y, v)) (hy : am_yn y = M'.1) (hC : am_okC2 M' 0 np) (hnp : args.length = np) (hi : i < 12) (hq : q = 1000 + i) (hcn : M'.1.cls = "java/lang/String") (hd : d' + 1 ≤ d) (hk0 : k + mc' ≤ mc) (hz0 : z + ms' ≤ ms) (hcat : (st.map fun v => v.category).sum ≤ 8)
    (hcall : Call M' d' (.ref q :: args) h n mc' ms' Q') (kk : ∀ (v : Option Value) (h' : am_H) (n' : Nat), Q' v h' n' → G X M d Q mc ms nx L (v.toList ++ st) h' n' (k + mc') (z + ms')) : G X M d Q mc ms pc L (args.reverse ++ (.ref q :: st)) h n k z := by
  intro p l e R s m args0 below meth c Qw D as A H locs ls rst C E Z0 Wd S hk hl hst
  obtain ⟨hdc, hnx, hok⟩ := am_okM_dec C.2.2.2.2.2.2.2.2.2.2.2.2 hj
  obtain rfl : nx = pc + 3 := hnx
  obtain ⟨m1, m2, rfl, s1, s2⟩ := am_Vs.split hst
  obtain ⟨r0, rfl, g0, h0⟩ := am_Vr s2
  obtain ⟨c1, c2, c3, c4, c5⟩ := hC
  have T := C.2.2.2.2.2.2.2.1
  have hM := hcall hk.2.2 l D as (.ref (as q) :: m1.reverse) H.size ⟨⟨g0, rfl⟩, by have := s1.rev; rwa [List.reverse_reverse] at this⟩
  have hlen : m1.reverse.length = np := by rw [List.length_reverse, s1.len, List.length_reverse]; exact hnp
  have hrec : ∃ cell : Cell, H[as q]? = some cell ∧ cell.vm.isStatics = false ∧ s.vm.findClass "java/lang/String" = some cell.cls := by rw [hq]; exact vk_recv (adK := fun i => as (1000 + i)) (i := i) Z0.2.1.2.2.2.2.1 hi S
  have hA : ∀ q, am_A as n H.size q → A q := fun q hq => by
    rcases hq with ⟨k, hk, rfl⟩ | hq
    · exact Wd.inA k hk
    · exact Z0.1 q (Nat.le_trans S.1 hq)
  have hp : PreV s H "java/lang/String" (as q) (va_Pc (.ref (as q) :: m1.reverse) (am_B D as n h H.size)) m1.reverse := ⟨am_blind, hrec, fun U hU hW => ⟨rfl, am_pre Z0.1 Z0.2.1 Wd S hU hW⟩⟩
  have hR : (am_rm d' mc' ms').frames + 1 ≤ R.frames ∧ 8 + (M'.2.2.1 + 11) + (am_rm d' mc' ms').locals ≤ R.locals := ⟨by have := C.2.2.2.2.2.2.2.2.1; show d' + 1 ≤ R.frames; omega, by have := C.2.2.2.2.2.2.2.2.2.1; show 8 + (M'.2.2.1 + 11) + 40 * d' ≤ R.locals; omega⟩
  have hf : k + mc' ≤ R.cells ∧ z + ms' ≤ R.slots := ⟨Nat.le_trans hk0 C.2.2.2.2.2.2.2.2.2.2.1, Nat.le_trans hz0 C.2.2.2.2.2.2.2.2.2.2.2.1⟩
  have hst2 : m1 ++ Value.ref (as q) :: r0 = m1.reverse.reverse ++ Value.ref (as q) :: r0 := by rw [List.reverse_reverse]
  have hroom : 2 * (F0 m pc ls (m1 ++ Value.ref (as q) :: r0)).monitorRoom + (r0.map fun v => v.category).sum ≤ 8 := lv_room (by rw [h0.cat]; exact hcat)
  have fin : ∀ hr : va_Run p l e R s m args0 below meth c H locs k z mc' ms' (F0 m pc ls (m1 ++ Value.ref (as q) :: r0)) r0 (am_Q D as n (am_A as n H.size) Q' (Value.ref (as q) :: m1.reverse).toArray) (am_A as n H.size), W p l e R s m args0 below meth c H locs k z Qw (F0 m pc ls (m1 ++ Value.ref (as q) :: r0)) := fun hr =>
    am_cont hr S hA (fun v rv h' n' as' H1 locs1 hQ hro hn hE hW hS => kk v h' n' hQ p l e R s m args0 below meth c Qw D as' A H1 locs1 ls _ C (E.to hE) ⟨Z0.1, Z0.2.1.ext hE, Z0.2.2.to hE⟩ hW hS ⟨hk0, hz0, hn⟩ (hl.mono hE) (hro.app (h0.mono hE)))
  have hlk0 := am_link_spec C.2.2.2.2.2.2.2.2.2.2.2.2.2 (show am_link M.2.2.2.2.1.2 a x y = true from hok)
  rw [hy] at hlk0
  rcases hlk0 with hlk | ⟨host, hlk⟩
  · exact fin (va_runV (Ts := lw_T) ⟨C.1, C.2.1, C.2.2.1, C.2.2.2.2.2.2.1, T⟩ hM ⟨callB_of np T (am_good c1) rfl rfl rfl (T _ c2) (T _ hlk) c3 hR, T _ c5.1, by rw [← hcn]; exact T _ c5.2⟩ hp rfl hlen hl.2.choose_spec.1.1 hst2 hroom hdc hf)
  · exact fin (va_runVN (Ts := lw_T) ⟨C.1, C.2.1, C.2.2.1, C.2.2.2.2.2.2.1, T⟩ hM ⟨va_cnB np T (am_good c1) rfl rfl rfl (Z0.2.1.2.2.2.2.2.2 _ hlk rfl) (T _ c2) c3 hR, T _ c5.1, by rw [← hcn]; exact T _ c5.2⟩ hp rfl hlen hl.2.choose_spec.1.1 hst2 hroom hdc hf)
end GCT
section GSTX
variable {X : am_X0} {M : am_M} {d : Nat} {Q : Option Value → am_S → Prop} {pc nx : Nat} {L L' st st' : List Value} {σ σ' : am_S} {x : List Nat} {y : Nat} {v : Value}
theorem GS.cT {a i d' np : Nat} {args st0 : List Value} {M' : am_M} {v1 : Option Value} {σ1 : am_S} (hC : am_okC2 M' 0 np) (hcall : CallS M' d' (.ref (1000 + i) :: args) σ (am_det v1 σ1)) (hj : am_at M pc = some (.invokevirtual a, nx, x, y, v)) (hy : am_yn y = M'.1) (hst : st0 = args.reverse ++ (.ref (1000 + i) :: st)) (hnp : args.length = np) (hi : i < 12) (hcn : M'.1.cls = "java/lang/String") (hcat : (st.map fun v => v.category).sum ≤ 8) (hd : d' + 1 ≤ d)
    (kk : GS X M d Q nx L (v1.toList ++ st) σ1) : GS X M d Q pc L st0 σ := by
  subst hst
  exact G.callT hj hy hC hnp hi rfl hcn hd (Nat.le_refl _) (Nat.le_refl _) hcat hcall (fun v h' n' hq => by obtain ⟨rfl, σ', rfl, hq1, rfl⟩ := hq; subst hq1; exact kk)
theorem GS.strV {a i : Nat} (hj : am_at M pc = some (.getfield a, nx, x, y, v)) (hi : i < 12) (hlk : Cond.fieldLink M.1.cls a "java/lang/String" "value" "[B" ∈ lw_T) (kk : GS X M d Q nx L (.ref (2000 + i) :: st) σ) : GS X M d Q pc L (.ref (1000 + i) :: st) σ := G.strV hj hi hlk kk
theorem GS.strC {a i : Nat} (hj : am_at M pc = some (.getfield a, nx, x, y, v)) (hi : i < 12) (hlk : Cond.fieldLink M.1.cls a "java/lang/String" "coder" "B" ∈ lw_T) (kk : GS X M d Q nx L (.int 0 :: st) σ) : GS X M d Q pc L (.ref (1000 + i) :: st) σ := G.strC hj hi hlk kk
theorem GS.strL {i : Nat} (hj : am_at M pc = some (.arraylength, nx, x, y, v)) (hi : i < 12) (kk : GS X M d Q nx L (.int (nI (am_lens.getD i 0)) :: st) σ) : GS X M d Q pc L (.ref (2000 + i) :: st) σ := G.strL hj hi kk
theorem GS.strB {i : Nat} {a : Int32} (hj : am_at M pc = some (.baload, nx, x, y, v)) (hi : i < 12) (hin : vp_in a (am_lens.getD i 0)) (kk : GS X M d Q nx L (.int ((am_byt.getD i []).getD a.toNatClampNeg 0) :: st) σ) : GS X M d Q pc L (.int a :: .ref (2000 + i) :: st) σ := G.strB hj hi hin kk
theorem GS.cmpS {a : Nat} (hj : am_at M pc = some (.getstatic a, nx, x, y, v)) (hlk : Cond.fieldLink M.1.cls a "java/lang/String" "COMPACT_STRINGS" "Z" ∈ lw_T) (kk : GS X M d Q nx L (.int 1 :: st) σ) : GS X M d Q pc L st σ := G.cmpS hj hlk kk
theorem GS.fmtS {a : Nat} (hj : am_at M pc = some (.getstatic a, nx, x, y, v)) (hlk : Cond.fieldLink M.1.cls a "jdk/internal/util/Preconditions" "SIOOBE_FORMATTER" "Ljava/util/function/BiFunction;" ∈ lw_T) (kk : ∀ w : Value, w = .ref 3001 ∨ w = .null → GS X M d Q nx L (w :: st) σ) : GS X M d Q pc L st σ := G.fmtS hj hlk kk
theorem GS.ldcS {a q : Nat} (hj : am_at M pc = some (.ldc a, nx, x, y, .ref q)) (kk : GS X M d Q nx L (.ref q :: st) σ) : GS X M d Q pc L st σ := G.ldcS hj kk
end GSTX
theorem c_jcoder (d : Nat) (σ : am_S) (i : Nat) (hi : i < 12) : CallS mJ0_coder_7d493 (d) [.ref (1000 + i)] σ (am_det (some (.int 0)) σ) := by
  refine CallS.of kJ0_coder_7d493 pJ0_coder_7d493 [.ref (1000 + i)] rfl (Nat.le_of_ble_eq_true rfl) ?_
  refine GS.cmpS rfl (lw_T_in2 (lw_m3 (i := 23) rfl) rfl) ?_
  refine GS.if_eq rfl (fun q => absurd q (by decide)) (fun _ => ?_)
  refine GS.run [] 1 rfl ?_
  refine GS.strC rfl hi (lw_T_in2 (lw_m7 (i := 223) rfl) rfl) ?_
  refine GS.run [] 1 rfl ?_
  refine GS.iret rfl rfl rfl ?_
  exact ⟨rfl, rfl⟩
theorem c_jlat (d : Nat) (σ : am_S) (i : Nat) (hi : i < 12) : CallS mJ0_isLatin1_aae02 (d) [.ref (1000 + i)] σ (am_det (some (.int 1)) σ) := by
  refine CallS.of kJ0_isLatin1_aae02 pJ0_isLatin1_aae02 [.ref (1000 + i)] rfl (Nat.le_of_ble_eq_true rfl) ?_
  refine GS.cmpS rfl (lw_T_in2 (lw_m3 (i := 23) rfl) rfl) ?_
  refine GS.if_eq rfl (fun q => absurd q (by decide)) (fun _ => ?_)
  refine GS.run [] 1 rfl ?_
  refine GS.strC rfl hi (lw_T_in2 (lw_m7 (i := 223) rfl) rfl) ?_
  refine GS.if_ne rfl (fun q => absurd rfl q) (fun _ => ?_)
  refine GS.run [] 2 rfl ?_
  refine GS.iret rfl rfl rfl ?_
  exact ⟨rfl, rfl⟩
theorem jl12 {i : Nat} (hi : i < 12) : i = 0 ∨ i = 1 ∨ i = 2 ∨ i = 3 ∨ i = 4 ∨ i = 5 ∨ i = 6 ∨ i = 7 ∨ i = 8 ∨ i = 9 ∨ i = 10 ∨ i = 11 := by omega
theorem c_jlen (d : Nat) (σ : am_S) (i : Nat) (hi : i < 12) : CallS mJ0_length_8abf5 (d + 1) [.ref (1000 + i)] σ (am_det (some (.int (nI (am_lens.getD i 0)))) σ) := by
  refine CallS.of kJ0_length_8abf5 pJ0_length_8abf5 [.ref (1000 + i)] rfl (Nat.le_of_ble_eq_true rfl) ?_
  refine GS.run [] 1 rfl ?_
  refine GS.strV rfl hi (lw_T_in2 (lw_m7 (i := 222) rfl) rfl) ?_
  refine GS.strL rfl hi ?_
  refine GS.run [] 1 rfl ?_
  refine GS.cT oJ0_coder_7d493 (c_jcoder d σ i hi) rfl rfl rfl rfl hi rfl (Nat.le_of_ble_eq_true rfl) (by omega) ?_
  refine GS.run [] 1 rfl ?_
  refine GS.iret rfl rfl rfl ?_
  refine ⟨congrArg (fun z => some (Value.int z)) ?_, rfl⟩
  rcases jl12 hi with rfl | rfl | rfl | rfl | rfl | rfl | rfl | rfl | rfl | rfl | rfl | rfl <;> decide +kernel
theorem c_jchk3 (d : Nat) (σ : am_S) (a b : Nat) (r : Nat) (h : a < b) (hb : b < 1000) : CallS mJ3_checkIndex_8e157 (d) [.int (nI a), .int (nI b), .ref r] σ (am_det (some (.int (nI a))) σ) := by
  refine CallS.of kJ3_checkIndex_8e157 pJ3_checkIndex_8e157 [.int (nI a), .int (nI b), .ref r] rfl (Nat.le_of_ble_eq_true rfl) ?_
  refine GS.run [] 1 rfl ?_
  refine GS.if_lt rfl (fun q => absurd q (Int32.not_lt.mpr (nI_pos' (by omega)))) (fun _ => ?_)
  refine GS.run [] 2 rfl ?_
  refine GS.icmp_lt rfl (fun _ => ?_) (fun q => absurd ((nI_ltI (by omega) (by omega)).mpr h) q)
  refine GS.run [] 1 rfl ?_
  refine GS.iret rfl rfl rfl ?_
  exact ⟨rfl, rfl⟩
theorem c_jchk3n (d : Nat) (σ : am_S) (a b : Nat) (h : a < b) (hb : b < 1000) : CallS mJ3_checkIndex_8e157 (d) [.int (nI a), .int (nI b), .null] σ (am_det (some (.int (nI a))) σ) := by
  refine CallS.of kJ3_checkIndex_8e157 pJ3_checkIndex_8e157 [.int (nI a), .int (nI b), .null] rfl (Nat.le_of_ble_eq_true rfl) ?_
  refine GS.run [] 1 rfl ?_
  refine GS.if_lt rfl (fun q => absurd q (Int32.not_lt.mpr (nI_pos' (by omega)))) (fun _ => ?_)
  refine GS.run [] 2 rfl ?_
  refine GS.icmp_lt rfl (fun _ => ?_) (fun q => absurd ((nI_ltI (by omega) (by omega)).mpr h) q)
  refine GS.run [] 1 rfl ?_
  refine GS.iret rfl rfl rfl ?_
  exact ⟨rfl, rfl⟩
theorem c_jchk (d : Nat) (σ : am_S) (a b : Nat) (h : a < b) (hb : b < 1000) : CallS mJ0_checkIndex_df160 (d + 1) [.int (nI a), .int (nI b)] σ (am_det none σ) := by
  refine CallS.of kJ0_checkIndex_df160 pJ0_checkIndex_df160 [.int (nI a), .int (nI b)] rfl (Nat.le_of_ble_eq_true rfl) ?_
  refine GS.run [] 2 rfl ?_
  refine GS.fmtS rfl (lw_T_in2 (lw_m3 (i := 39) rfl) rfl) (fun w hw => ?_)
  rcases hw with rfl | rfl
  · refine GS.cS oJ3_checkIndex_8e157 (c_jchk3 d σ a b 3001 h hb) rfl rfl rfl rfl (Nat.le_of_ble_eq_true rfl) (by omega) ?_
    refine GS.run [] 1 rfl ?_
    refine GS.vret rfl rfl ?_
    exact ⟨rfl, rfl⟩
  · refine GS.cS oJ3_checkIndex_8e157 (c_jchk3n d σ a b h hb) rfl rfl rfl rfl (Nat.le_of_ble_eq_true rfl) (by omega) ?_
    refine GS.run [] 1 rfl ?_
    refine GS.vret rfl rfl ?_
    exact ⟨rfl, rfl⟩
def jB (i k : Nat) : Nat := ((am_byt.getD i []).getD k 0).toInt.toNat
theorem jB_ok : ∀ i : Fin 12, ∀ k : Fin 6, k.val < am_lens.getD i.val 0 → (am_byt.getD i.val []).getD k.val 0 = nI (jB i.val k.val) ∧ jB i.val k.val < 128 ∧ 97 ≤ jB i.val k.val ∧ jB i.val k.val ≤ 122 := by decide +kernel
theorem jB_c : ∀ b : Fin 128, ((nI b.val &&& 255).toUInt32 % 65536).toInt32 = nI b.val := by decide +kernel
theorem jB_n : ∀ b : Fin 128, narrow .char (.int (nI b.val)) = .int (nI b.val) := by decide +kernel
theorem jlen_6 : ∀ i : Fin 12, am_lens.getD i.val 0 ≤ 6 := by decide +kernel
theorem c_jch1 (d : Nat) (σ : am_S) (i k : Nat) (hi : i < 12) (hk : k < am_lens.getD i 0) : CallS mJ1_charAt_3b067 (d + 3) [.ref (2000 + i), .int (nI k)] σ (am_det (some (.int (nI (jB i k)))) σ) := by
  refine CallS.of kJ1_charAt_3b067 pJ1_charAt_3b067 [.ref (2000 + i), .int (nI k)] rfl (Nat.le_of_ble_eq_true rfl) ?_
  have h6 : am_lens.getD i 0 ≤ 6 := jlen_6 ⟨i, hi⟩
  obtain ⟨j1, j2, -⟩ := jB_ok ⟨i, hi⟩ ⟨k, by omega⟩ hk
  refine GS.run [] 2 rfl ?_
  refine GS.strL rfl hi ?_
  refine GS.cS oJ0_checkIndex_df160 (c_jchk (d + 1) σ k (am_lens.getD i 0) hk (by omega)) rfl rfl rfl rfl (Nat.le_of_ble_eq_true rfl) (by omega) ?_
  refine GS.run [] 2 rfl ?_
  refine GS.strB rfl hi (am_in.mpr ⟨by rw [nI_toInt (by omega)]; omega, by rw [nI_toInt (by omega)]; omega⟩) ?_
  rw [nI_clamp (by omega)]
  rw [show (am_byt.getD i []).getD k 0 = nI (jB i k) from j1]
  refine GS.run [] 3 rfl ?_
  rw [show ((nI (jB i k) &&& 255).toUInt32 % 65536).toInt32 = nI (jB i k) from jB_c ⟨jB i k, j2⟩]
  refine GS.run [] 0 rfl ?_
  refine GS.iret rfl rfl (jB_n ⟨jB i k, j2⟩) ?_
  exact ⟨rfl, rfl⟩
theorem c_jchar (d : Nat) (σ : am_S) (i k : Nat) (hi : i < 12) (hk : k < am_lens.getD i 0) : CallS mJ0_charAt_5068e (d + 4) [.ref (1000 + i), .int (nI k)] σ (am_det (some (.int (nI (jB i k)))) σ) := by
  refine CallS.of kJ0_charAt_5068e pJ0_charAt_5068e [.ref (1000 + i), .int (nI k)] rfl (Nat.le_of_ble_eq_true rfl) ?_
  have h6 : am_lens.getD i 0 ≤ 6 := jlen_6 ⟨i, hi⟩
  obtain ⟨j1, j2, -⟩ := jB_ok ⟨i, hi⟩ ⟨k, by omega⟩ hk
  refine GS.run [] 1 rfl ?_
  refine GS.cT oJ0_isLatin1_aae02 (c_jlat d σ i hi) rfl rfl rfl rfl hi rfl (Nat.le_of_ble_eq_true rfl) (by omega) ?_
  refine GS.if_eq rfl (fun q => absurd q (by decide)) (fun _ => ?_)
  refine GS.run [] 1 rfl ?_
  refine GS.strV rfl hi (lw_T_in2 (lw_m7 (i := 222) rfl) rfl) ?_
  refine GS.run [] 1 rfl ?_
  refine GS.cS oJ1_charAt_3b067 (c_jch1 d σ i k hi hk) rfl rfl rfl rfl (Nat.le_of_ble_eq_true rfl) (by omega) ?_
  refine GS.iret rfl rfl (jB_n ⟨jB i k, j2⟩) ?_
  exact ⟨rfl, rfl⟩
