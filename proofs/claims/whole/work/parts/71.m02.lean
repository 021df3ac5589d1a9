theorem bt_ofN {n i : Nat} : bt (Int32.ofNat n) i = (decide (i < 32) && n.testBit i) := by
  show (BitVec.ofNat 32 n).getLsbD i = _
  rw [BitVec.getLsbD_ofNat]
theorem bt_ush {x : Int32} {k i : Nat} (hk : k < 32) : bt (q_ush x (Int32.ofNat k)) i = bt x (k + i) := by
  have h1 : (Int32.ofNat k).toUInt32 &&& Int32.toUInt32 31 = UInt32.ofNat k := by
    apply UInt32.toBitVec_inj.mp
    show (BitVec.ofNat 32 k) &&& 31#32 = BitVec.ofNat 32 k
    apply BitVec.eq_of_toNat_eq
    rw [BitVec.toNat_and, BitVec.toNat_ofNat]
    have h2 : k % 2 ^ 32 = k := Nat.mod_eq_of_lt (Nat.lt_trans hk (by decide))
    rw [h2]
    show k &&& 31 = k
    rw [Nat.and_two_pow_sub_one_eq_mod k 5]
    exact Nat.mod_eq_of_lt hk
  unfold q_ush bt
  rw [h1]
  show (x.toBitVec >>> ((UInt32.ofNat k).toBitVec % 32#32)).getLsbD i = _
  have h3 : ((UInt32.ofNat k).toBitVec % 32#32).toNat = k := by
    show (BitVec.ofNat 32 k % 32#32).toNat = k
    rw [BitVec.toNat_umod, BitVec.toNat_ofNat]
    show k % 4294967296 % 32 = k
    omega
  rw [BitVec.ushiftRight_eq', BitVec.getLsbD_ushiftRight, h3]
theorem sh_amt {k : Nat} (hk : k < 32) : ((Int32.ofNat k &&& 31).toBitVec.smod 32#32).toNat = k := by
  have h1 : ∀ j : Fin 32, ((Int32.ofNat j.1 &&& 31).toBitVec.smod 32#32).toNat = j.1 := by decide
  exact h1 ⟨k, hk⟩
theorem sh_amt0 {k : Nat} (hk : k < 32) : ((Int32.ofNat k).toBitVec.smod 32#32).toNat = k := by
  have h1 : ∀ j : Fin 32, ((Int32.ofNat j.1).toBitVec.smod 32#32).toNat = j.1 := by decide
  exact h1 ⟨k, hk⟩
theorem bt_shl {x : Int32} {k i : Nat} (hk : k < 32) : bt (x <<< (Int32.ofNat k &&& 31)) i = (decide (i < 32) && !decide (i < k) && bt x (i - k)) := by
  show (x.toBitVec <<< ((Int32.ofNat k &&& 31).toBitVec.smod 32#32)).getLsbD i = _
  rw [BitVec.shiftLeft_eq', BitVec.getLsbD_shiftLeft, sh_amt hk]
  rfl
theorem bt_sshr {x : Int32} {k i : Nat} (hk : k < 32) (hx : bt x 31 = false) : bt (x >>> (Int32.ofNat k &&& 31)) i = bt x (k + i) := by
  show (x.toBitVec.sshiftRight' ((Int32.ofNat k &&& 31).toBitVec.smod 32#32)).getLsbD i = _
  rw [BitVec.sshiftRight_eq', BitVec.getLsbD_sshiftRight, sh_amt hk]
  have hm : x.toBitVec.msb = false := by
    rw [BitVec.msb_eq_getLsbD_last]
    exact hx
  rw [hm]
  by_cases h1 : 32 ≤ i
  · simp [h1]
    exact bt_hi (by omega)
  · by_cases h2 : k + i < 32
    · simp [h1, h2]
      rfl
    · simp [h1, h2]
      exact bt_hi (by omega)
theorem bt_pair {m c : Int32} {i : Nat} : bt (q_Codes_pair m c) i = ((decide (i < 32) && !decide (i < 16) && bt m (i - 16)) || bt c i) := by
  unfold q_Codes_pair
  rw [bt_or]
  congr 1
  exact bt_shl (k := 16) (by decide)
theorem b16_65535 {i : Nat} : bt 65535 i = decide (i < 16) := by
  have h : (65535 : Int32) = Int32.ofNat 65535 := rfl
  rw [h, bt_ofN, show (65535 : Nat) = 2 ^ 16 - 1 from rfl, Nat.testBit_two_pow_sub_one]
  by_cases h : i < 16
  · have : i < 32 := by omega
    simp [h, this]
  · simp [h]
theorem must_pair {m c : Int32} (hm : b16 m) (hc : b16 c) : q_Codes_mustOf (q_Codes_pair m c) = m := by
  apply bt_ext
  intro i hi
  unfold q_Codes_mustOf
  rw [show (16 : Int32) = Int32.ofNat 16 from rfl, bt_ush (by decide), bt_pair, hc (16 + i) (by omega), Nat.add_sub_cancel_left]
  by_cases h : i < 16
  · have h1 : 16 + i < 32 := by omega
    have h2 : ¬ 16 + i < 16 := by omega
    simp [h1]
  · rw [hm i (by omega)]
    simp
theorem can_pair {m c : Int32} (hc : b16 c) : q_Codes_canOf (q_Codes_pair m c) = c := by
  apply bt_ext
  intro i hi
  unfold q_Codes_canOf
  rw [bt_and, bt_pair, b16_65535]
  by_cases h : i < 16
  · simp [h]
  · rw [hc i (by omega)]
    simp [h]
theorem pair_or {a b c d : Int32} : q_Codes_pair a b ||| q_Codes_pair c d = q_Codes_pair (a ||| c) (b ||| d) := by
  apply bt_ext
  intro i hi
  rw [bt_or, bt_pair, bt_pair, bt_pair, bt_or, bt_or]
  cases decide (i < 32) <;> cases decide (i < 16) <;> cases bt a (i - 16) <;> cases bt b i <;> cases bt c (i - 16) <;> cases bt d i <;> rfl
theorem pair_or2 {b : Int32} {m : Int32} : q_Codes_pair m b ||| 2 = q_Codes_pair m (b ||| 2) := by
  have h : (2 : Int32) = q_Codes_pair 0 2 := rfl
  rw [show q_Codes_pair m b ||| 2 = q_Codes_pair m b ||| q_Codes_pair 0 2 from rfl, pair_or]
  congr 1
  apply bt_ext
  intro i _
  rw [bt_or, bt_0, Bool.or_false]
theorem bt_1 {i : Nat} : bt 1 i = decide (i = 0) := by
  rw [show (1 : Int32) = Int32.ofNat (2 ^ 0) from rfl, bt_ofN, Nat.testBit_two_pow]
  by_cases h : i = 0
  · simp [h]
  · have : ¬ 0 = i := fun e => h e.symm
    simp [h, this]
theorem bt_2 {i : Nat} : bt 2 i = decide (i = 1) := by
  rw [show (2 : Int32) = Int32.ofNat (2 ^ 1) from rfl, bt_ofN, Nat.testBit_two_pow]
  by_cases h : i = 1
  · simp [h]
  · have : ¬ 1 = i := fun e => h e.symm
    simp [h, this]
theorem bt_3 {i : Nat} : bt 3 i = decide (i < 2) := by
  rw [show (3 : Int32) = Int32.ofNat (2 ^ 2 - 1) from rfl, bt_ofN, Nat.testBit_two_pow_sub_one]
  by_cases h : i < 2
  · have : i < 32 := by omega
    simp [h, this]
  · simp [h]
theorem bt_m4 {i : Nat} : bt (-4) i = (decide (i < 32) && !decide (i < 2)) := by
  rw [show (-4 : Int32) = 3 ^^^ (-1) from rfl, bt_not, bt_3]
theorem bt_m2 {i : Nat} : bt (-2) i = (decide (i < 32) && !decide (i = 0)) := by
  rw [show (-2 : Int32) = 1 ^^^ (-1) from rfl, bt_not, bt_1]
theorem bt_p2 {k i : Nat} (hk : k < 32) : bt ((1 : Int32) <<< (Int32.ofNat k &&& 31)) i = decide (i = k) := by
  rw [bt_shl hk, bt_1]
  by_cases h : i = k
  · subst h
    simp [hk]
  · by_cases h1 : i < k
    · simp [h, h1]
    · have : ¬ i - k = 0 := by omega
      simp [h, this]
theorem bt_bT {x : Int32} (hx : b16 x) {i : Nat} : bt (q_Codes_behindTrap x) i = (if i = 0 then bt x 0 || bt x 2 else if i = 1 then bt x 1 else bt x (i + 1)) := by
  unfold q_Codes_behindTrap
  rw [bt_or, bt_or, bt_and, bt_and, bt_and, bt_3, bt_1, bt_m4, show (2 : Int32) = Int32.ofNat 2 from rfl, show (1 : Int32) = Int32.ofNat 1 from rfl, bt_ush (by decide), bt_ush (by decide)]
  by_cases h0 : i = 0
  · subst h0
    simp
  · by_cases h1 : i = 1
    · subst h1
      simp
    · have h2 : ¬ i < 2 := by omega
      rw [if_neg h0, if_neg h1, Nat.add_comm 1 i]
      by_cases h3 : i < 32
      · simp [h0, h2, h3]
      · rw [hx (i + 1) (by omega)]
        simp [h0, h2]
theorem low_eq {x : Int32} (hx : b16 x) : q_low x = q_Codes_behindTrap x := by
  apply bt_ext
  intro i hi
  rw [bt_bT hx]
  unfold q_low
  have h31 : bt x 31 = false := hx 31 (by decide)
  rw [bt_or, bt_or, bt_or, bt_and, bt_and, bt_and, bt_1, bt_2, show (2 : Int32) = Int32.ofNat 2 from rfl, show (3 : Int32) = Int32.ofNat 3 from rfl, bt_shl (by decide), bt_sshr (by decide) h31, bt_sshr (by decide) h31]
  by_cases h0 : i = 0
  · subst h0
    simp
  · by_cases h1 : i = 1
    · subst h1
      simp
    · have h2 : ¬ i < 2 := by omega
      rw [if_neg h0, if_neg h1, show 3 + (i - 2) = i + 1 by omega]
      simp [h0, h1, h2, hi]
theorem b16_bT {x : Int32} (hx : b16 x) : b16 (q_Codes_behindTrap x) := fun i hi => by
  rw [bt_bT hx, if_neg (by omega), if_neg (by omega)]
  exact hx _ (by omega)
theorem b16_or {x y : Int32} (hx : b16 x) (hy : b16 y) : b16 (x ||| y) := fun i hi => by rw [bt_or, hx i hi, hy i hi]; rfl
theorem b16_andl {x y : Int32} (hx : b16 x) : b16 (x &&& y) := fun i hi => by rw [bt_and, hx i hi]; rfl
theorem b16_gr {x y : Int32} (hx : b16 x) (hy : b16 y) : b16 (q_Codes_greater x y) := b16_or (b16_andl hx) (b16_andl hy)
theorem b16_0 : b16 0 := fun _ _ => bt_0
theorem b16_1 : b16 1 := fun i hi => by rw [bt_1]; simp; omega
theorem b16_2 : b16 2 := fun i hi => by rw [bt_2]; simp; omega
theorem b16_p2 {k : Nat} (hk : k < 16) : b16 ((1 : Int32) <<< (Int32.ofNat k &&& 31)) := fun i hi => by rw [bt_p2 (by omega)]; simp; omega
