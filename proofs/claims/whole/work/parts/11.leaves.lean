def zI (a : Int) : Int32 := Int32.ofInt a
theorem zI_t {a : Int} (h1 : -2147483648 ≤ a) (h2 : a < 2147483648) : (zI a).toInt = a := Int32.toInt_ofInt_of_le (by simpa using h1) (by simpa using h2)
theorem zI_n (n : Nat) : nI n = zI (n : Int) := by
  exact (Int32.ofInt_eq_ofNat).symm
theorem zI_add (a b : Int) : zI a + zI b = zI (a + b) := (Int32.ofInt_add a b).symm
theorem zI_mul (a b : Int) : zI a * zI b = zI (a * b) := (Int32.ofInt_mul a b).symm
theorem zI_neg (a : Int) : -zI a = zI (-a) := (Int32.ofInt_neg a).symm
theorem zI_sub (a b : Int) : zI a - zI b = zI (a - b) := (Int32.ofInt_sub a b).symm
theorem zI_of (x : Int32) : zI x.toInt = x := Int32.ofInt_toInt x
theorem zI_ltI {a b : Int} (h1 : -2147483648 ≤ a) (h2 : a < 2147483648) (h3 : -2147483648 ≤ b) (h4 : b < 2147483648) : zI a < zI b ↔ a < b := by rw [tI_lt, zI_t h1 h2, zI_t h3 h4]
theorem zI_leI {a b : Int} (h1 : -2147483648 ≤ a) (h2 : a < 2147483648) (h3 : -2147483648 ≤ b) (h4 : b < 2147483648) : zI a ≤ zI b ↔ a ≤ b := by rw [tI_le, zI_t h1 h2, zI_t h3 h4]
theorem zI_eqI {a b : Int} (h1 : -2147483648 ≤ a) (h2 : a < 2147483648) (h3 : -2147483648 ≤ b) (h4 : b < 2147483648) : zI a = zI b ↔ a = b := by
  constructor
  · intro h
    have h5 := congrArg Int32.toInt h
    rwa [zI_t h1 h2, zI_t h3 h4] at h5
  · intro h; rw [h]
theorem nI_ne_none {n : Nat} (h : n < 2 ^ 31) : nI n ≠ -1000000 := by
  intro e
  have h5 := congrArg Int32.toInt e
  rw [nI_toInt h, show (-1000000 : Int32).toInt = -1000000 from rfl] at h5
  omega
def am_fm (x y : Int32) : Int32 := if x ^^^ y < 0 ∧ ¬ x - x / y * y = 0 then x - x / y * y + y else x - x / y * y
theorem am_fm_all : ∀ a : Fin 41, ∀ m : Fin 9, 0 < m.val → am_fm (zI ((a.val : Int) - 20)) (nI m.val) = nI ((((a.val : Int) - 20) % (m.val : Int)).toNat) := by decide +kernel
theorem am_fm_z {a : Int} {m : Nat} (h1 : -20 ≤ a) (h2 : a ≤ 20) (h3 : 0 < m) (h4 : m ≤ 8) : am_fm (zI a) (nI m) = nI ((a % (m : Int)).toNat) := by
  have h := am_fm_all ⟨(a + 20).toNat, by omega⟩ ⟨m, by omega⟩ h3
  have e : (((a + 20).toNat : Nat) : Int) - 20 = a := by omega
  simp only [e] at h
  exact h
theorem c_floorMod (d : Nat) (σ : am_S) (x y : Int32) (hy : ¬ y = 0) : CallS mJ9_floorMod_7cf53 (d) [.int x, .int y] σ (am_det (some (.int (am_fm x y))) σ) := by
  refine CallS.of kJ9_floorMod_7cf53 pJ9_floorMod_7cf53 [.int x, .int y, .retAddr 0] rfl (Nat.le_of_ble_eq_true rfl) ?_
  refine GS.run [] 2 rfl ?_
  refine GS.irem rfl (hy) ?_
  refine GS.run [] 4 rfl ?_
  refine GS.if_ge rfl (fun c7 => ?_) (fun c7 => ?_)
  · refine GS.run [] 1 rfl ?_
    refine GS.iret rfl rfl (rfl) ?_
    refine ⟨?_, rfl⟩
    unfold am_fm
    first
      | (rw [if_neg (fun h => absurd (Int32.not_le.mpr h.1) (fun z => z c7))]; done)
      | (rw [if_neg (fun h => h.2 c11)]; done)
      | (rw [if_pos ⟨Int32.not_le.mp c7, c11⟩]; done)
  · refine GS.run [] 1 rfl ?_
    refine GS.if_eq rfl (fun c11 => ?_) (fun c11 => ?_)
    · refine GS.run [] 1 rfl ?_
      refine GS.iret rfl rfl (rfl) ?_
      refine ⟨?_, rfl⟩
      unfold am_fm
      first
        | (rw [if_neg (fun h => absurd (Int32.not_le.mpr h.1) (fun z => z c7))]; done)
        | (rw [if_neg (fun h => h.2 c11)]; done)
        | (rw [if_pos ⟨Int32.not_le.mp c7, c11⟩]; done)
    · refine GS.run [] 3 rfl ?_
      refine GS.iret rfl rfl (rfl) ?_
      refine ⟨?_, rfl⟩
      unfold am_fm
      first
        | (rw [if_neg (fun h => absurd (Int32.not_le.mpr h.1) (fun z => z c7))]; done)
        | (rw [if_neg (fun h => h.2 c11)]; done)
        | (rw [if_pos ⟨Int32.not_le.mp c7, c11⟩]; done)
theorem c_max (d : Nat) (σ : am_S) (x y : Int32) : CallS mJ9_max_7cf53 (d) [.int x, .int y] σ (am_det (some (.int (if x < y then y else x))) σ) := by
  refine CallS.of kJ9_max_7cf53 pJ9_max_7cf53 [.int x, .int y] rfl (Nat.le_of_ble_eq_true rfl) ?_
  refine GS.run [] 2 rfl ?_
  refine GS.icmp_lt rfl (fun c2 => ?_) (fun c2 => ?_)
  · refine GS.run [] 1 rfl ?_
    refine GS.iret rfl rfl (rfl) ?_
    refine ⟨?_, rfl⟩
    first
      | (rw [if_pos c2])
      | (rw [if_neg c2])
      | (rw [if_neg (fun h => absurd (Int32.not_le.mpr h) (fun z => z c2))])
      | (rw [if_pos (Int32.not_le.mp c2)])
  · refine GS.run [] 2 rfl ?_
    refine GS.iret rfl rfl (rfl) ?_
    refine ⟨?_, rfl⟩
    first
      | (rw [if_pos c2])
      | (rw [if_neg c2])
      | (rw [if_neg (fun h => absurd (Int32.not_le.mpr h) (fun z => z c2))])
      | (rw [if_pos (Int32.not_le.mp c2)])
theorem c_min (d : Nat) (σ : am_S) (x y : Int32) : CallS mJ9_min_7cf53 (d) [.int x, .int y] σ (am_det (some (.int (if y < x then y else x))) σ) := by
  refine CallS.of kJ9_min_7cf53 pJ9_min_7cf53 [.int x, .int y] rfl (Nat.le_of_ble_eq_true rfl) ?_
  refine GS.run [] 2 rfl ?_
  refine GS.icmp_gt rfl (fun c2 => ?_) (fun c2 => ?_)
  · refine GS.run [] 1 rfl ?_
    refine GS.iret rfl rfl (rfl) ?_
    refine ⟨?_, rfl⟩
    first
      | (rw [if_pos c2])
      | (rw [if_neg c2])
      | (rw [if_neg (fun h => absurd (Int32.not_le.mpr h) (fun z => z c2))])
      | (rw [if_pos (Int32.not_le.mp c2)])
  · refine GS.run [] 2 rfl ?_
    refine GS.iret rfl rfl (rfl) ?_
    refine ⟨?_, rfl⟩
    first
      | (rw [if_pos c2])
      | (rw [if_neg c2])
      | (rw [if_neg (fun h => absurd (Int32.not_le.mpr h) (fun z => z c2))])
      | (rw [if_pos (Int32.not_le.mp c2)])
theorem c_has_10 (d : Nat) (σ : am_S) (c : Int32) : CallS mX8_has (d + 1) [.ref 10, .int c] σ (am_det (some (.int (am_b (0 ≤ c.toInt ∧ c.toInt < (σ 10 0).toInt)))) σ) := by
  refine CallS.of kX8_has pX8_has [.ref 10, .int c] rfl (Nat.le_of_ble_eq_true rfl) ?_
  refine GS.run [] 3 rfl ?_
  refine GS.cS oX11_within (c_within d σ c (σ 10 0)) rfl rfl rfl rfl (Nat.le_of_ble_eq_true rfl) (by omega) ?_
  refine GS.iret rfl rfl (nar_b _) ?_
  exact ⟨rfl, rfl⟩
theorem c_corners_10 (d : Nat) (σ : am_S)  : CallS mX8_corners (d) [.ref 10] σ (am_det (some (.int (σ 10 0))) σ) := by
  refine CallS.of kX8_corners pX8_corners [.ref 10] rfl (Nat.le_of_ble_eq_true rfl) ?_
  refine GS.run [] 2 rfl ?_
  refine GS.iret rfl rfl (rfl) ?_
  exact ⟨rfl, rfl⟩
theorem c_streetsAt_10 (d : Nat) (σ : am_S) (c : Int32) : CallS mX8_streetsAt (d + 1) [.ref 10, .int c] σ (am_det (some (.int (am_get (σ 14) 8 (c)))) σ) := by
  refine CallS.of kX8_streetsAt pX8_streetsAt [.ref 10, .int c] rfl (Nat.le_of_ble_eq_true rfl) ?_
  refine GS.run [] 3 rfl ?_
  refine GS.cS oX11_at (c_at d σ 14 8 (c) rfl) rfl rfl rfl rfl (Nat.le_of_ble_eq_true rfl) (by omega) ?_
  refine GS.iret rfl rfl (rfl) ?_
  exact ⟨rfl, rfl⟩
theorem c_joined_10 (d : Nat) (σ : am_S) (a b : Int32) : CallS mX8_joined (d + 1) [.ref 10, .int a, .int b] σ (am_det (some (.int (am_b (¬ am_get (σ 16) 64 (a * 8 + b) = -1000000)))) σ) := by
  refine CallS.of kX8_joined pX8_joined [.ref 10, .int a, .int b] rfl (Nat.le_of_ble_eq_true rfl) ?_
  refine GS.run [] 7 rfl ?_
  refine GS.cS oX11_at (c_at d σ 16 64 (a * 8 + b) rfl) rfl rfl rfl rfl (Nat.le_of_ble_eq_true rfl) (by omega) ?_
  refine GS.run [] 1 rfl ?_
  refine GS.icmp_eq rfl (fun c15 => ?_) (fun c15 => ?_)
  · refine GS.run [] 1 rfl ?_
    refine GS.iret rfl rfl (rfl) ?_
    refine ⟨?_, rfl⟩
    unfold am_b
    first
      | (rw [if_pos c15])
      | (rw [if_neg (fun h => h c15)])
  · refine GS.run [] 2 rfl ?_
    refine GS.iret rfl rfl (rfl) ?_
    refine ⟨?_, rfl⟩
    unfold am_b
    first
      | (rw [if_pos c15])
      | (rw [if_neg (fun h => h c15)])
theorem c_has_17 (d : Nat) (σ : am_S) (c : Int32) : CallS mX8_has (d + 1) [.ref 17, .int c] σ (am_det (some (.int (am_b (0 ≤ c.toInt ∧ c.toInt < (σ 17 0).toInt)))) σ) := by
  refine CallS.of kX8_has pX8_has [.ref 17, .int c] rfl (Nat.le_of_ble_eq_true rfl) ?_
  refine GS.run [] 3 rfl ?_
  refine GS.cS oX11_within (c_within d σ c (σ 17 0)) rfl rfl rfl rfl (Nat.le_of_ble_eq_true rfl) (by omega) ?_
  refine GS.iret rfl rfl (nar_b _) ?_
  exact ⟨rfl, rfl⟩
theorem c_corners_17 (d : Nat) (σ : am_S)  : CallS mX8_corners (d) [.ref 17] σ (am_det (some (.int (σ 17 0))) σ) := by
  refine CallS.of kX8_corners pX8_corners [.ref 17] rfl (Nat.le_of_ble_eq_true rfl) ?_
  refine GS.run [] 2 rfl ?_
  refine GS.iret rfl rfl (rfl) ?_
  exact ⟨rfl, rfl⟩
theorem c_streetsAt_17 (d : Nat) (σ : am_S) (c : Int32) : CallS mX8_streetsAt (d + 1) [.ref 17, .int c] σ (am_det (some (.int (am_get (σ 21) 8 (c)))) σ) := by
  refine CallS.of kX8_streetsAt pX8_streetsAt [.ref 17, .int c] rfl (Nat.le_of_ble_eq_true rfl) ?_
  refine GS.run [] 3 rfl ?_
  refine GS.cS oX11_at (c_at d σ 21 8 (c) rfl) rfl rfl rfl rfl (Nat.le_of_ble_eq_true rfl) (by omega) ?_
  refine GS.iret rfl rfl (rfl) ?_
  exact ⟨rfl, rfl⟩
theorem c_joined_17 (d : Nat) (σ : am_S) (a b : Int32) : CallS mX8_joined (d + 1) [.ref 17, .int a, .int b] σ (am_det (some (.int (am_b (¬ am_get (σ 23) 64 (a * 8 + b) = -1000000)))) σ) := by
  refine CallS.of kX8_joined pX8_joined [.ref 17, .int a, .int b] rfl (Nat.le_of_ble_eq_true rfl) ?_
  refine GS.run [] 7 rfl ?_
  refine GS.cS oX11_at (c_at d σ 23 64 (a * 8 + b) rfl) rfl rfl rfl rfl (Nat.le_of_ble_eq_true rfl) (by omega) ?_
  refine GS.run [] 1 rfl ?_
  refine GS.icmp_eq rfl (fun c15 => ?_) (fun c15 => ?_)
  · refine GS.run [] 1 rfl ?_
    refine GS.iret rfl rfl (rfl) ?_
    refine ⟨?_, rfl⟩
    unfold am_b
    first
      | (rw [if_pos c15])
      | (rw [if_neg (fun h => h c15)])
  · refine GS.run [] 2 rfl ?_
    refine GS.iret rfl rfl (rfl) ?_
    refine ⟨?_, rfl⟩
    unfold am_b
    first
      | (rw [if_pos c15])
      | (rw [if_neg (fun h => h c15)])
theorem c_streets_10 (d : Nat) (σ : am_S)  : CallS mX8_streets (d) [.ref 10] σ (am_det (some (.int (σ 10 1))) σ) := by
  refine CallS.of kX8_streets pX8_streets [.ref 10] rfl (Nat.le_of_ble_eq_true rfl) ?_
  refine GS.run [] 2 rfl ?_
  refine GS.iret rfl rfl (rfl) ?_
  exact ⟨rfl, rfl⟩
theorem c_heightOf_10 (d : Nat) (σ : am_S) (c : Int32) : CallS mX8_heightOf (d + 1) [.ref 10, .int c] σ (am_det (some (.int (am_get (σ 11) 8 (c)))) σ) := by
  refine CallS.of kX8_heightOf pX8_heightOf [.ref 10, .int c] rfl (Nat.le_of_ble_eq_true rfl) ?_
  refine GS.run [] 3 rfl ?_
  refine GS.cS oX11_at (c_at d σ 11 8 (c) rfl) rfl rfl rfl rfl (Nat.le_of_ble_eq_true rfl) (by omega) ?_
  refine GS.iret rfl rfl (rfl) ?_
  exact ⟨rfl, rfl⟩
theorem c_markOf_10 (d : Nat) (σ : am_S) (c : Int32) : CallS mX8_markOf (d + 1) [.ref 10, .int c] σ (am_det (some (.int (am_get (σ 12) 8 (c)))) σ) := by
  refine CallS.of kX8_markOf pX8_markOf [.ref 10, .int c] rfl (Nat.le_of_ble_eq_true rfl) ?_
  refine GS.run [] 3 rfl ?_
  refine GS.cS oX11_at (c_at d σ 12 8 (c) rfl) rfl rfl rfl rfl (Nat.le_of_ble_eq_true rfl) (by omega) ?_
  refine GS.iret rfl rfl (rfl) ?_
  exact ⟨rfl, rfl⟩
theorem c_hasWell_10 (d : Nat) (σ : am_S) (c : Int32) : CallS mX8_hasWell (d + 1) [.ref 10, .int c] σ (am_det (some (.int (am_b (am_get (σ 13) 8 (c) = 1)))) σ) := by
  refine CallS.of kX8_hasWell pX8_hasWell [.ref 10, .int c] rfl (Nat.le_of_ble_eq_true rfl) ?_
  refine GS.run [] 3 rfl ?_
  refine GS.cS oX11_at (c_at d σ 13 8 (c) rfl) rfl rfl rfl rfl (Nat.le_of_ble_eq_true rfl) (by omega) ?_
  refine GS.run [] 1 rfl ?_
  refine GS.icmp_ne rfl (fun c9 => ?_) (fun c9 => ?_)
  · refine GS.run [] 1 rfl ?_
    refine GS.iret rfl rfl (rfl) ?_
    refine ⟨?_, rfl⟩
    unfold am_b
    first
      | (rw [if_pos c9])
      | (rw [if_neg c9])
  · refine GS.run [] 2 rfl ?_
    refine GS.iret rfl rfl (rfl) ?_
    refine ⟨?_, rfl⟩
    unfold am_b
    first
      | (rw [if_pos c9])
      | (rw [if_neg c9])
def am_nb (f : Nat → Int32) (c i : Int32) : Int32 := if 0 ≤ i.toInt ∧ i.toInt < ((6 : Nat) : Int) then am_get f 48 (c * 6 + i) else -1000000
theorem c_neighbour_10 (d : Nat) (σ : am_S) (c i : Int32) : CallS mX8_neighbour (d + 1) [.ref 10, .int c, .int i] σ (am_det (some (.int (am_nb (σ 15) c i))) σ) := by
  refine CallS.of kX8_neighbour pX8_neighbour [.ref 10, .int c, .int i] rfl (Nat.le_of_ble_eq_true rfl) ?_
  refine GS.run [] 2 rfl ?_
  refine GS.cS oX11_within (c_withinN d σ i 6 (by decide)) rfl rfl rfl rfl (Nat.le_of_ble_eq_true rfl) (by omega) ?_
  refine GS.if_eq rfl (fun c6 => ?_) (fun c6 => ?_)
  · refine GS.run [] 1 rfl ?_
    refine GS.iret rfl rfl (rfl) ?_
    refine ⟨?_, rfl⟩
    unfold am_nb
    first
      | (rw [if_neg (am_b0.mp c6)])
      | (rw [if_pos (Decidable.not_not.mp (fun h => c6 (am_b0.mpr h)))])
  · refine GS.run [] 7 rfl ?_
    refine GS.cS oX11_at (c_at d σ 15 48 (c * 6 + i) rfl) rfl rfl rfl rfl (Nat.le_of_ble_eq_true rfl) (by omega) ?_
    refine GS.run [] 1 rfl ?_
    refine GS.iret rfl rfl (rfl) ?_
    refine ⟨?_, rfl⟩
    unfold am_nb
    first
      | (rw [if_neg (am_b0.mp c6)])
      | (rw [if_pos (Decidable.not_not.mp (fun h => c6 (am_b0.mpr h)))])
theorem c_setMark_10 (d : Nat) (σ : am_S) (c m : Int32) : CallS mX8_setMark (d + 1) [.ref 10, .int c, .int m] σ (am_det none (am_s1 σ 12 (am_put (σ 12) 8 c m))) := by
  refine CallS.of kX8_setMark pX8_setMark [.ref 10, .int c, .int m] rfl (Nat.le_of_ble_eq_true rfl) ?_
  refine GS.run [] 4 rfl ?_
  refine GS.cS oX11_put (c_put d σ 12 8 c m rfl) rfl rfl rfl rfl (Nat.le_of_ble_eq_true rfl) (by omega) ?_
  refine GS.vret rfl rfl ?_
  exact ⟨rfl, rfl⟩
def am_rf (f g h : Nat → Int32) (c b s : Int32) : Int32 := if am_get g 64 (c * 8 + b) = -1000000 ∨ am_get f 8 c < 1 then -1000000 else am_get h 48 (c * 6 + am_fm (am_get g 64 (c * 8 + b) + s) (am_get f 8 c))
theorem c_roundFrom_10 (d : Nat) (σ : am_S) (c b s : Int32) : CallS mX8_roundFrom (d + 1) [.ref 10, .int c, .int b, .int s] σ (am_det (some (.int (am_rf (σ 14) (σ 16) (σ 15) c b s))) σ) := by
  refine CallS.of kX8_roundFrom pX8_roundFrom [.ref 10, .int c, .int b, .int s, .retAddr 0, .retAddr 0] rfl (Nat.le_of_ble_eq_true rfl) ?_
  refine GS.run [] 3 rfl ?_
  refine GS.cS oX11_at (c_at d σ 14 8 (c) rfl) rfl rfl rfl rfl (Nat.le_of_ble_eq_true rfl) (by omega) ?_
  refine GS.run [] 8 rfl ?_
  refine GS.cS oX11_at (c_at d σ 16 64 (c * 8 + b) rfl) rfl rfl rfl rfl (Nat.le_of_ble_eq_true rfl) (by omega) ?_
  refine GS.run [] 3 rfl ?_
  refine GS.icmp_eq rfl (fun c29 => ?_) (fun c29 => ?_)
  · refine GS.run [] 1 rfl ?_
    refine GS.iret rfl rfl (rfl) ?_
    refine ⟨?_, rfl⟩
    unfold am_rf
    first
      | (rw [if_pos (Or.inl c29)])
      | (rw [if_pos (Or.inr (Int32.not_le.mp c35))])
      | (rw [if_neg (fun h => h.elim c29 (fun h => absurd (Int32.not_le.mpr h) (fun z => z c35)))])
  · refine GS.run [] 2 rfl ?_
    refine GS.icmp_ge rfl (fun c35 => ?_) (fun c35 => ?_)
    · refine GS.run [] 9 rfl ?_
      refine GS.cS oJ9_floorMod_7cf53 (c_floorMod d σ (am_get (σ 16) 64 (c * 8 + b) + s) (am_get (σ 14) 8 (c)) (by intro e; rw [e] at c35; exact absurd c35 (by decide))) rfl rfl rfl rfl (Nat.le_of_ble_eq_true rfl) (by omega) ?_
      refine GS.run [] 1 rfl ?_
      refine GS.cS oX11_at (c_at d σ 15 48 (c * 6 + am_fm (am_get (σ 16) 64 (c * 8 + b) + s) (am_get (σ 14) 8 (c))) rfl) rfl rfl rfl rfl (Nat.le_of_ble_eq_true rfl) (by omega) ?_
      refine GS.iret rfl rfl (rfl) ?_
      refine ⟨?_, rfl⟩
      unfold am_rf
      first
        | (rw [if_pos (Or.inl c29)])
        | (rw [if_pos (Or.inr (Int32.not_le.mp c35))])
        | (rw [if_neg (fun h => h.elim c29 (fun h => absurd (Int32.not_le.mpr h) (fun z => z c35)))])
    · refine GS.run [] 1 rfl ?_
      refine GS.iret rfl rfl (rfl) ?_
      refine ⟨?_, rfl⟩
      unfold am_rf
      first
        | (rw [if_pos (Or.inl c29)])
        | (rw [if_pos (Or.inr (Int32.not_le.mp c35))])
        | (rw [if_neg (fun h => h.elim c29 (fun h => absurd (Int32.not_le.mpr h) (fun z => z c35)))])
theorem c_become_10_17 (d : Nat) (σ : am_S)  : CallS mX8_become (d + 1) [.ref 10, .ref 17] σ (fun v σ' => v = none ∧ same [10, 11, 12, 13, 14, 15, 16] σ σ' ∧ σ' 10 0 = σ 17 0 ∧ σ' 10 1 = σ 17 1 ∧ (∀ i, i < 8 → σ' 11 i = σ 18 i) ∧ (∀ i, i < 8 → σ' 12 i = σ 19 i) ∧ (∀ i, i < 8 → σ' 13 i = σ 20 i) ∧ (∀ i, i < 8 → σ' 14 i = σ 21 i) ∧ (∀ i, i < 48 → σ' 15 i = σ 22 i) ∧ (∀ i, i < 64 → σ' 16 i = σ 23 i)) := by
  refine CallS.of kX8_become pX8_become [.ref 10, .ref 17] rfl (Nat.le_of_ble_eq_true rfl) ?_
  refine GS.run [] 12 rfl ?_
  refine GS.cS oX11_putAll (c_putAll d _ 11 18 8 rfl rfl (by decide)) rfl rfl rfl rfl (Nat.le_of_ble_eq_true rfl) (by omega) ?_
  refine GS.run [] 4 rfl ?_
  refine GS.cS oX11_putAll (c_putAll d _ 12 19 8 rfl rfl (by decide)) rfl rfl rfl rfl (Nat.le_of_ble_eq_true rfl) (by omega) ?_
  refine GS.run [] 4 rfl ?_
  refine GS.cS oX11_putAll (c_putAll d _ 13 20 8 rfl rfl (by decide)) rfl rfl rfl rfl (Nat.le_of_ble_eq_true rfl) (by omega) ?_
  refine GS.run [] 4 rfl ?_
  refine GS.cS oX11_putAll (c_putAll d _ 14 21 8 rfl rfl (by decide)) rfl rfl rfl rfl (Nat.le_of_ble_eq_true rfl) (by omega) ?_
  refine GS.run [] 4 rfl ?_
  refine GS.cS oX11_putAll (c_putAll d _ 15 22 48 rfl rfl (by decide)) rfl rfl rfl rfl (Nat.le_of_ble_eq_true rfl) (by omega) ?_
  refine GS.run [] 4 rfl ?_
  refine GS.cS oX11_putAll (c_putAll d _ 16 23 64 rfl rfl (by decide)) rfl rfl rfl rfl (Nat.le_of_ble_eq_true rfl) (by omega) ?_
  refine GS.vret rfl rfl ?_
  refine ⟨rfl, fun q hq => ?_, ?_, ?_, ?_, ?_, ?_, ?_, ?_, ?_⟩
  · simp only [List.mem_cons, List.not_mem_nil, or_false, not_or] at hq
    simp only [am_s1, hq, if_false]
  all_goals first | rfl | (funext i; simp [am_s1, am_cop, upd]; done) | (intro i hi; simp [am_s1, am_cop, upd, hi]; done) | (simp [am_s1, am_cop, upd]; done)
theorem c_become_29_10 (d : Nat) (σ : am_S)  : CallS mX8_become (d + 1) [.ref 29, .ref 10] σ (fun v σ' => v = none ∧ same [29, 30, 31, 32, 33, 34, 35] σ σ' ∧ σ' 29 0 = σ 10 0 ∧ σ' 29 1 = σ 10 1 ∧ (∀ i, i < 8 → σ' 30 i = σ 11 i) ∧ (∀ i, i < 8 → σ' 31 i = σ 12 i) ∧ (∀ i, i < 8 → σ' 32 i = σ 13 i) ∧ (∀ i, i < 8 → σ' 33 i = σ 14 i) ∧ (∀ i, i < 48 → σ' 34 i = σ 15 i) ∧ (∀ i, i < 64 → σ' 35 i = σ 16 i)) := by
  refine CallS.of kX8_become pX8_become [.ref 29, .ref 10] rfl (Nat.le_of_ble_eq_true rfl) ?_
  refine GS.run [] 12 rfl ?_
  refine GS.cS oX11_putAll (c_putAll d _ 30 11 8 rfl rfl (by decide)) rfl rfl rfl rfl (Nat.le_of_ble_eq_true rfl) (by omega) ?_
  refine GS.run [] 4 rfl ?_
  refine GS.cS oX11_putAll (c_putAll d _ 31 12 8 rfl rfl (by decide)) rfl rfl rfl rfl (Nat.le_of_ble_eq_true rfl) (by omega) ?_
  refine GS.run [] 4 rfl ?_
  refine GS.cS oX11_putAll (c_putAll d _ 32 13 8 rfl rfl (by decide)) rfl rfl rfl rfl (Nat.le_of_ble_eq_true rfl) (by omega) ?_
  refine GS.run [] 4 rfl ?_
  refine GS.cS oX11_putAll (c_putAll d _ 33 14 8 rfl rfl (by decide)) rfl rfl rfl rfl (Nat.le_of_ble_eq_true rfl) (by omega) ?_
  refine GS.run [] 4 rfl ?_
  refine GS.cS oX11_putAll (c_putAll d _ 34 15 48 rfl rfl (by decide)) rfl rfl rfl rfl (Nat.le_of_ble_eq_true rfl) (by omega) ?_
  refine GS.run [] 4 rfl ?_
  refine GS.cS oX11_putAll (c_putAll d _ 35 16 64 rfl rfl (by decide)) rfl rfl rfl rfl (Nat.le_of_ble_eq_true rfl) (by omega) ?_
  refine GS.vret rfl rfl ?_
  refine ⟨rfl, fun q hq => ?_, ?_, ?_, ?_, ?_, ?_, ?_, ?_, ?_⟩
  · simp only [List.mem_cons, List.not_mem_nil, or_false, not_or] at hq
    simp only [am_s1, hq, if_false]
  all_goals first | rfl | (funext i; simp [am_s1, am_cop, upd]; done) | (intro i hi; simp [am_s1, am_cop, upd, hi]; done) | (simp [am_s1, am_cop, upd]; done)
theorem c_become_39_10 (d : Nat) (σ : am_S)  : CallS mX8_become (d + 1) [.ref 39, .ref 10] σ (fun v σ' => v = none ∧ same [39, 40, 41, 42, 43, 44, 45] σ σ' ∧ σ' 39 0 = σ 10 0 ∧ σ' 39 1 = σ 10 1 ∧ (∀ i, i < 8 → σ' 40 i = σ 11 i) ∧ (∀ i, i < 8 → σ' 41 i = σ 12 i) ∧ (∀ i, i < 8 → σ' 42 i = σ 13 i) ∧ (∀ i, i < 8 → σ' 43 i = σ 14 i) ∧ (∀ i, i < 48 → σ' 44 i = σ 15 i) ∧ (∀ i, i < 64 → σ' 45 i = σ 16 i)) := by
  refine CallS.of kX8_become pX8_become [.ref 39, .ref 10] rfl (Nat.le_of_ble_eq_true rfl) ?_
  refine GS.run [] 12 rfl ?_
  refine GS.cS oX11_putAll (c_putAll d _ 40 11 8 rfl rfl (by decide)) rfl rfl rfl rfl (Nat.le_of_ble_eq_true rfl) (by omega) ?_
  refine GS.run [] 4 rfl ?_
  refine GS.cS oX11_putAll (c_putAll d _ 41 12 8 rfl rfl (by decide)) rfl rfl rfl rfl (Nat.le_of_ble_eq_true rfl) (by omega) ?_
  refine GS.run [] 4 rfl ?_
  refine GS.cS oX11_putAll (c_putAll d _ 42 13 8 rfl rfl (by decide)) rfl rfl rfl rfl (Nat.le_of_ble_eq_true rfl) (by omega) ?_
  refine GS.run [] 4 rfl ?_
  refine GS.cS oX11_putAll (c_putAll d _ 43 14 8 rfl rfl (by decide)) rfl rfl rfl rfl (Nat.le_of_ble_eq_true rfl) (by omega) ?_
  refine GS.run [] 4 rfl ?_
  refine GS.cS oX11_putAll (c_putAll d _ 44 15 48 rfl rfl (by decide)) rfl rfl rfl rfl (Nat.le_of_ble_eq_true rfl) (by omega) ?_
  refine GS.run [] 4 rfl ?_
  refine GS.cS oX11_putAll (c_putAll d _ 45 16 64 rfl rfl (by decide)) rfl rfl rfl rfl (Nat.le_of_ble_eq_true rfl) (by omega) ?_
  refine GS.vret rfl rfl ?_
  refine ⟨rfl, fun q hq => ?_, ?_, ?_, ?_, ?_, ?_, ?_, ?_, ?_⟩
  · simp only [List.mem_cons, List.not_mem_nil, or_false, not_or] at hq
    simp only [am_s1, hq, if_false]
  all_goals first | rfl | (funext i; simp [am_s1, am_cop, upd]; done) | (intro i hi; simp [am_s1, am_cop, upd, hi]; done) | (simp [am_s1, am_cop, upd]; done)
theorem c_become_10_29 (d : Nat) (σ : am_S)  : CallS mX8_become (d + 1) [.ref 10, .ref 29] σ (fun v σ' => v = none ∧ same [10, 11, 12, 13, 14, 15, 16] σ σ' ∧ σ' 10 0 = σ 29 0 ∧ σ' 10 1 = σ 29 1 ∧ (∀ i, i < 8 → σ' 11 i = σ 30 i) ∧ (∀ i, i < 8 → σ' 12 i = σ 31 i) ∧ (∀ i, i < 8 → σ' 13 i = σ 32 i) ∧ (∀ i, i < 8 → σ' 14 i = σ 33 i) ∧ (∀ i, i < 48 → σ' 15 i = σ 34 i) ∧ (∀ i, i < 64 → σ' 16 i = σ 35 i)) := by
  refine CallS.of kX8_become pX8_become [.ref 10, .ref 29] rfl (Nat.le_of_ble_eq_true rfl) ?_
  refine GS.run [] 12 rfl ?_
  refine GS.cS oX11_putAll (c_putAll d _ 11 30 8 rfl rfl (by decide)) rfl rfl rfl rfl (Nat.le_of_ble_eq_true rfl) (by omega) ?_
  refine GS.run [] 4 rfl ?_
  refine GS.cS oX11_putAll (c_putAll d _ 12 31 8 rfl rfl (by decide)) rfl rfl rfl rfl (Nat.le_of_ble_eq_true rfl) (by omega) ?_
  refine GS.run [] 4 rfl ?_
  refine GS.cS oX11_putAll (c_putAll d _ 13 32 8 rfl rfl (by decide)) rfl rfl rfl rfl (Nat.le_of_ble_eq_true rfl) (by omega) ?_
  refine GS.run [] 4 rfl ?_
  refine GS.cS oX11_putAll (c_putAll d _ 14 33 8 rfl rfl (by decide)) rfl rfl rfl rfl (Nat.le_of_ble_eq_true rfl) (by omega) ?_
  refine GS.run [] 4 rfl ?_
  refine GS.cS oX11_putAll (c_putAll d _ 15 34 48 rfl rfl (by decide)) rfl rfl rfl rfl (Nat.le_of_ble_eq_true rfl) (by omega) ?_
  refine GS.run [] 4 rfl ?_
  refine GS.cS oX11_putAll (c_putAll d _ 16 35 64 rfl rfl (by decide)) rfl rfl rfl rfl (Nat.le_of_ble_eq_true rfl) (by omega) ?_
  refine GS.vret rfl rfl ?_
  refine ⟨rfl, fun q hq => ?_, ?_, ?_, ?_, ?_, ?_, ?_, ?_, ?_⟩
  · simp only [List.mem_cons, List.not_mem_nil, or_false, not_or] at hq
    simp only [am_s1, hq, if_false]
  all_goals first | rfl | (funext i; simp [am_s1, am_cop, upd]; done) | (intro i hi; simp [am_s1, am_cop, upd, hi]; done) | (simp [am_s1, am_cop, upd]; done)
theorem c_become_10_39 (d : Nat) (σ : am_S)  : CallS mX8_become (d + 1) [.ref 10, .ref 39] σ (fun v σ' => v = none ∧ same [10, 11, 12, 13, 14, 15, 16] σ σ' ∧ σ' 10 0 = σ 39 0 ∧ σ' 10 1 = σ 39 1 ∧ (∀ i, i < 8 → σ' 11 i = σ 40 i) ∧ (∀ i, i < 8 → σ' 12 i = σ 41 i) ∧ (∀ i, i < 8 → σ' 13 i = σ 42 i) ∧ (∀ i, i < 8 → σ' 14 i = σ 43 i) ∧ (∀ i, i < 48 → σ' 15 i = σ 44 i) ∧ (∀ i, i < 64 → σ' 16 i = σ 45 i)) := by
  refine CallS.of kX8_become pX8_become [.ref 10, .ref 39] rfl (Nat.le_of_ble_eq_true rfl) ?_
  refine GS.run [] 12 rfl ?_
  refine GS.cS oX11_putAll (c_putAll d _ 11 40 8 rfl rfl (by decide)) rfl rfl rfl rfl (Nat.le_of_ble_eq_true rfl) (by omega) ?_
  refine GS.run [] 4 rfl ?_
  refine GS.cS oX11_putAll (c_putAll d _ 12 41 8 rfl rfl (by decide)) rfl rfl rfl rfl (Nat.le_of_ble_eq_true rfl) (by omega) ?_
  refine GS.run [] 4 rfl ?_
  refine GS.cS oX11_putAll (c_putAll d _ 13 42 8 rfl rfl (by decide)) rfl rfl rfl rfl (Nat.le_of_ble_eq_true rfl) (by omega) ?_
  refine GS.run [] 4 rfl ?_
  refine GS.cS oX11_putAll (c_putAll d _ 14 43 8 rfl rfl (by decide)) rfl rfl rfl rfl (Nat.le_of_ble_eq_true rfl) (by omega) ?_
  refine GS.run [] 4 rfl ?_
  refine GS.cS oX11_putAll (c_putAll d _ 15 44 48 rfl rfl (by decide)) rfl rfl rfl rfl (Nat.le_of_ble_eq_true rfl) (by omega) ?_
  refine GS.run [] 4 rfl ?_
  refine GS.cS oX11_putAll (c_putAll d _ 16 45 64 rfl rfl (by decide)) rfl rfl rfl rfl (Nat.le_of_ble_eq_true rfl) (by omega) ?_
  refine GS.vret rfl rfl ?_
  refine ⟨rfl, fun q hq => ?_, ?_, ?_, ?_, ?_, ?_, ?_, ?_, ?_⟩
  · simp only [List.mem_cons, List.not_mem_nil, or_false, not_or] at hq
    simp only [am_s1, hq, if_false]
  all_goals first | rfl | (funext i; simp [am_s1, am_cop, upd]; done) | (intro i hi; simp [am_s1, am_cop, upd, hi]; done) | (simp [am_s1, am_cop, upd]; done)
theorem c_sbecome_24_26 (d : Nat) (σ : am_S)  : CallS mX5_become (d + 1) [.ref 24, .ref 26] σ (fun v σ' => v = none ∧ same [24, 25] σ σ' ∧ σ' 24 0 = σ 26 0 ∧ ∀ i, i < 12 → σ' 25 i = σ 27 i) := by
  refine CallS.of kX5_become pX5_become [.ref 24, .ref 26] rfl (Nat.le_of_ble_eq_true rfl) ?_
  refine GS.run [] 8 rfl ?_
  refine GS.cS oX11_putAll (c_putAll d _ 25 27 12 rfl rfl (by decide)) rfl rfl rfl rfl (Nat.le_of_ble_eq_true rfl) (by omega) ?_
  refine GS.vret rfl rfl ?_
  refine ⟨rfl, fun q hq => ?_, ?_, ?_⟩
  · simp only [List.mem_cons, List.not_mem_nil, or_false, not_or] at hq
    simp only [am_s1, hq, if_false]
  all_goals first | rfl | (intro i hi; simp [am_s1, am_cop, upd, hi]; done) | (simp [am_s1, am_cop, upd]; done)
theorem c_sbecome_36_24 (d : Nat) (σ : am_S)  : CallS mX5_become (d + 1) [.ref 36, .ref 24] σ (fun v σ' => v = none ∧ same [36, 37] σ σ' ∧ σ' 36 0 = σ 24 0 ∧ ∀ i, i < 12 → σ' 37 i = σ 25 i) := by
  refine CallS.of kX5_become pX5_become [.ref 36, .ref 24] rfl (Nat.le_of_ble_eq_true rfl) ?_
  refine GS.run [] 8 rfl ?_
  refine GS.cS oX11_putAll (c_putAll d _ 37 25 12 rfl rfl (by decide)) rfl rfl rfl rfl (Nat.le_of_ble_eq_true rfl) (by omega) ?_
  refine GS.vret rfl rfl ?_
  refine ⟨rfl, fun q hq => ?_, ?_, ?_⟩
  · simp only [List.mem_cons, List.not_mem_nil, or_false, not_or] at hq
    simp only [am_s1, hq, if_false]
  all_goals first | rfl | (intro i hi; simp [am_s1, am_cop, upd, hi]; done) | (simp [am_s1, am_cop, upd]; done)
theorem c_sbecome_46_24 (d : Nat) (σ : am_S)  : CallS mX5_become (d + 1) [.ref 46, .ref 24] σ (fun v σ' => v = none ∧ same [46, 47] σ σ' ∧ σ' 46 0 = σ 24 0 ∧ ∀ i, i < 12 → σ' 47 i = σ 25 i) := by
  refine CallS.of kX5_become pX5_become [.ref 46, .ref 24] rfl (Nat.le_of_ble_eq_true rfl) ?_
  refine GS.run [] 8 rfl ?_
  refine GS.cS oX11_putAll (c_putAll d _ 47 25 12 rfl rfl (by decide)) rfl rfl rfl rfl (Nat.le_of_ble_eq_true rfl) (by omega) ?_
  refine GS.vret rfl rfl ?_
  refine ⟨rfl, fun q hq => ?_, ?_, ?_⟩
  · simp only [List.mem_cons, List.not_mem_nil, or_false, not_or] at hq
    simp only [am_s1, hq, if_false]
  all_goals first | rfl | (intro i hi; simp [am_s1, am_cop, upd, hi]; done) | (simp [am_s1, am_cop, upd]; done)
theorem c_sbecome_24_36 (d : Nat) (σ : am_S)  : CallS mX5_become (d + 1) [.ref 24, .ref 36] σ (fun v σ' => v = none ∧ same [24, 25] σ σ' ∧ σ' 24 0 = σ 36 0 ∧ ∀ i, i < 12 → σ' 25 i = σ 37 i) := by
  refine CallS.of kX5_become pX5_become [.ref 24, .ref 36] rfl (Nat.le_of_ble_eq_true rfl) ?_
  refine GS.run [] 8 rfl ?_
  refine GS.cS oX11_putAll (c_putAll d _ 25 37 12 rfl rfl (by decide)) rfl rfl rfl rfl (Nat.le_of_ble_eq_true rfl) (by omega) ?_
  refine GS.vret rfl rfl ?_
  refine ⟨rfl, fun q hq => ?_, ?_, ?_⟩
  · simp only [List.mem_cons, List.not_mem_nil, or_false, not_or] at hq
    simp only [am_s1, hq, if_false]
  all_goals first | rfl | (intro i hi; simp [am_s1, am_cop, upd, hi]; done) | (simp [am_s1, am_cop, upd]; done)
theorem c_sbecome_24_46 (d : Nat) (σ : am_S)  : CallS mX5_become (d + 1) [.ref 24, .ref 46] σ (fun v σ' => v = none ∧ same [24, 25] σ σ' ∧ σ' 24 0 = σ 46 0 ∧ ∀ i, i < 12 → σ' 25 i = σ 47 i) := by
  refine CallS.of kX5_become pX5_become [.ref 24, .ref 46] rfl (Nat.le_of_ble_eq_true rfl) ?_
  refine GS.run [] 8 rfl ?_
  refine GS.cS oX11_putAll (c_putAll d _ 25 47 12 rfl rfl (by decide)) rfl rfl rfl rfl (Nat.le_of_ble_eq_true rfl) (by omega) ?_
  refine GS.vret rfl rfl ?_
  refine ⟨rfl, fun q hq => ?_, ?_, ?_⟩
  · simp only [List.mem_cons, List.not_mem_nil, or_false, not_or] at hq
    simp only [am_s1, hq, if_false]
  all_goals first | rfl | (intro i hi; simp [am_s1, am_cop, upd, hi]; done) | (simp [am_s1, am_cop, upd]; done)
theorem c_shas_24 (d : Nat) (σ : am_S) (c : Int32) : CallS mX5_has (d + 1) [.ref 24, .int c] σ (am_det (some (.int (am_b (0 ≤ c.toInt ∧ c.toInt < (σ 24 0).toInt)))) σ) := by
  refine CallS.of kX5_has pX5_has [.ref 24, .int c] rfl (Nat.le_of_ble_eq_true rfl) ?_
  refine GS.run [] 3 rfl ?_
  refine GS.cS oX11_within (c_within d σ c (σ 24 0)) rfl rfl rfl rfl (Nat.le_of_ble_eq_true rfl) (by omega) ?_
  refine GS.iret rfl rfl (nar_b _) ?_
  exact ⟨rfl, rfl⟩
theorem c_slength_24 (d : Nat) (σ : am_S)  : CallS mX5_length (d) [.ref 24] σ (am_det (some (.int (σ 24 0))) σ) := by
  refine CallS.of kX5_length pX5_length [.ref 24] rfl (Nat.le_of_ble_eq_true rfl) ?_
  refine GS.run [] 2 rfl ?_
  refine GS.iret rfl rfl (rfl) ?_
  exact ⟨rfl, rfl⟩
theorem c_shas_26 (d : Nat) (σ : am_S) (c : Int32) : CallS mX5_has (d + 1) [.ref 26, .int c] σ (am_det (some (.int (am_b (0 ≤ c.toInt ∧ c.toInt < (σ 26 0).toInt)))) σ) := by
  refine CallS.of kX5_has pX5_has [.ref 26, .int c] rfl (Nat.le_of_ble_eq_true rfl) ?_
  refine GS.run [] 3 rfl ?_
  refine GS.cS oX11_within (c_within d σ c (σ 26 0)) rfl rfl rfl rfl (Nat.le_of_ble_eq_true rfl) (by omega) ?_
  refine GS.iret rfl rfl (nar_b _) ?_
  exact ⟨rfl, rfl⟩
theorem c_slength_26 (d : Nat) (σ : am_S)  : CallS mX5_length (d) [.ref 26] σ (am_det (some (.int (σ 26 0))) σ) := by
  refine CallS.of kX5_length pX5_length [.ref 26] rfl (Nat.le_of_ble_eq_true rfl) ?_
  refine GS.run [] 2 rfl ?_
  refine GS.iret rfl rfl (rfl) ?_
  exact ⟨rfl, rfl⟩
theorem c_sclear_26 (d : Nat) (σ : am_S)  : CallS mX5_clear (d) [.ref 26] σ (am_det none (am_s1 σ 26 (upd (σ 26) 0 0))) := by
  refine CallS.of kX5_clear pX5_clear [.ref 26] rfl (Nat.le_of_ble_eq_true rfl) ?_
  refine GS.run [] 3 rfl ?_
  refine GS.vret rfl rfl ?_
  exact ⟨rfl, rfl⟩
def am_wd (f : Nat → Int32) (n c : Int32) : Int32 := if 0 ≤ c.toInt ∧ c.toInt < n.toInt then am_get f 12 c else -1000000
theorem c_wordAt (d : Nat) (σ : am_S) (c : Int32) : CallS mX5_wordAt (d + 2) [.ref 24, .int c] σ (am_det (some (.int (am_wd (σ 25) (σ 24 0) c))) σ) := by
  refine CallS.of kX5_wordAt pX5_wordAt [.ref 24, .int c] rfl (Nat.le_of_ble_eq_true rfl) ?_
  refine GS.run [] 2 rfl ?_
  refine GS.cV oX5_has (c_shas_24 d σ c) rfl rfl rfl rfl rfl rfl rfl (Nat.le_of_ble_eq_true rfl) (by omega) ?_
  refine GS.if_eq rfl (fun c5 => ?_) (fun c5 => ?_)
  · refine GS.run [] 1 rfl ?_
    refine GS.iret rfl rfl (rfl) ?_
    refine ⟨?_, rfl⟩
    unfold am_wd
    first
      | (rw [if_neg (am_b0.mp c5)])
      | (rw [if_pos (Decidable.not_not.mp (fun h => c5 (am_b0.mpr h)))])
  · refine GS.run [] 3 rfl ?_
    refine GS.cS oX11_at (c_at (d + 1) σ 25 12 c rfl) rfl rfl rfl rfl (Nat.le_of_ble_eq_true rfl) (by omega) ?_
    refine GS.run [] 1 rfl ?_
    refine GS.iret rfl rfl (rfl) ?_
    refine ⟨?_, rfl⟩
    unfold am_wd
    first
      | (rw [if_neg (am_b0.mp c5)])
      | (rw [if_pos (Decidable.not_not.mp (fun h => c5 (am_b0.mpr h)))])
