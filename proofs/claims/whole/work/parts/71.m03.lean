theorem lb_ext {x y : Int64} (h : ∀ i, i < 64 → lb x i = lb y i) : x = y := by
  apply Int64.toBitVec_inj.mp
  exact BitVec.eq_of_getLsbD_eq fun i hi => h i hi
theorem lb_hi {x : Int64} {i : Nat} (h : 64 ≤ i) : lb x i = false := BitVec.getLsbD_of_ge _ _ h
theorem lb_or {x y : Int64} {i : Nat} : lb (x ||| y) i = (lb x i || lb y i) := by simp [lb]
theorem lb_and {x y : Int64} {i : Nat} : lb (x &&& y) i = (lb x i && lb y i) := by simp [lb]
theorem lb_xor {x y : Int64} {i : Nat} : lb (x ^^^ y) i = (lb x i ^^ lb y i) := by simp [lb]
theorem lb_m1 {i : Nat} : lb (-1) i = decide (i < 64) := by
  show (BitVec.getLsbD (BitVec.allOnes 64) i) = _
  exact BitVec.getLsbD_allOnes
theorem lb_not {x : Int64} {i : Nat} : lb (x ^^^ (-1)) i = (decide (i < 64) && !lb x i) := by
  rw [lb_xor, lb_m1]
  by_cases h : i < 64
  · simp [h]
  · simp [h, lb_hi (Nat.le_of_not_lt h)]
theorem lb_ofN {n i : Nat} : lb (Int64.ofNat n) i = (decide (i < 64) && n.testBit i) := by
  show (BitVec.ofNat 64 n).getLsbD i = _
  rw [BitVec.getLsbD_ofNat]
theorem lb_1 {i : Nat} : lb 1 i = decide (i = 0) := by
  rw [show (1 : Int64) = Int64.ofNat (2 ^ 0) from rfl, lb_ofN, Nat.testBit_two_pow]
  by_cases h : i = 0
  · simp [h]
  · have : ¬ 0 = i := fun e => h e.symm
    simp [h, this]
theorem lb_2 {i : Nat} : lb 2 i = decide (i = 1) := by
  rw [show (2 : Int64) = Int64.ofNat (2 ^ 1) from rfl, lb_ofN, Nat.testBit_two_pow]
  by_cases h : i = 1
  · simp [h]
  · have : ¬ 1 = i := fun e => h e.symm
    simp [h, this]
theorem lb_0 {i : Nat} : lb 0 i = false := by
  show (BitVec.getLsbD (0#64) i) = _
  simp
theorem amt64 {k : Nat} (hk : k < 64) : ((Int64.ofNat k).toBitVec.smod 64#64).toNat = k := by
  have h1 : ∀ j : Fin 64, ((Int64.ofNat j.1).toBitVec.smod 64#64).toNat = j.1 := by decide
  exact h1 ⟨k, hk⟩
theorem lb_sshr {x : Int64} {k i : Nat} (hk : k + i < 64) : lb (x >>> Int64.ofNat k) i = lb x (k + i) := by
  show (x.toBitVec.sshiftRight' ((Int64.ofNat k).toBitVec.smod 64#64)).getLsbD i = _
  rw [BitVec.sshiftRight_eq', BitVec.getLsbD_sshiftRight, amt64 (by omega)]
  have h1 : ¬ 64 ≤ i := by omega
  simp [h1, hk]
  rfl
theorem lb_shl {x : Int64} {k i : Nat} (hk : k < 64) : lb (x <<< Int64.ofNat k) i = (decide (i < 64) && !decide (i < k) && lb x (i - k)) := by
  show (x.toBitVec <<< ((Int64.ofNat k).toBitVec.smod 64#64)).getLsbD i = _
  rw [BitVec.shiftLeft_eq', BitVec.getLsbD_shiftLeft, amt64 hk]
  rfl
theorem lb_p2 {k i : Nat} (hk : k < 64) : lb ((1 : Int64) <<< Int64.ofNat k) i = decide (i = k) := by
  rw [lb_shl hk, lb_1]
  by_cases h : i = k
  · subst h
    simp [hk]
  · by_cases h1 : i < k
    · simp [h, h1]
    · have : ¬ i - k = 0 := by omega
      simp [h, this]
theorem amt_l {j : Nat} (hj : j < 26) : (32 + Int32.ofNat j).toInt64 &&& 63 = Int64.ofNat (32 + j) := by
  have h1 : ∀ j : Fin 26, (32 + Int32.ofNat j.1).toInt64 &&& 63 = Int64.ofNat (32 + j.1) := by decide
  exact h1 ⟨j, hj⟩
theorem amt_c {j : Nat} (hj : j < 32) : (Int32.ofNat j).toInt64 &&& 63 = Int64.ofNat j := by
  have h1 : ∀ j : Fin 32, (Int32.ofNat j.1).toInt64 &&& 63 = Int64.ofNat j.1 := by decide
  exact h1 ⟨j, hj⟩
theorem and1 {x : Int64} : x &&& 1 = 1 ↔ lb x 0 = true := by
  constructor
  · intro h
    have : lb (x &&& 1) 0 = lb 1 0 := by rw [h]
    rw [lb_and, lb_1] at this
    simpa using this
  · intro h
    apply lb_ext
    intro i _
    rw [lb_and, lb_1]
    by_cases hi : i = 0
    · subst hi
      simp [h]
    · simp [hi]
def sg (x : Int64) (j : Nat) : Bool := lb x (32 + j)
def co (x : Int64) : Int32 := x.toInt32
theorem hasS_eq {x : Int64} {j : Nat} (hj : j < 26) : q_hasS x (Int32.ofNat j) = if sg x j = true then 1 else 0 := by
  unfold q_hasS sg
  rw [amt_l hj]
  have h : ((x >>> Int64.ofNat (32 + j)) &&& 1 = 1) ↔ lb x (32 + j) = true := by rw [and1, lb_sshr (by omega)]; rfl
  by_cases hb : lb x (32 + j) = true
  · rw [if_pos hb, if_pos (h.mpr hb)]
  · rw [if_neg hb, if_neg (fun e => hb (h.mp e))]
theorem bt_co {x : Int64} {i : Nat} : bt (co x) i = (decide (i < 32) && lb x i) := by
  unfold bt co lb
  rw [Int64.toBitVec_toInt32, BitVec.getLsbD_signExtend]
  by_cases h : i < 32
  · have : i < 64 := by omega
    simp [h, this]
  · simp [h]
theorem hasC_eq {x : Int64} : q_hasC x 0 = if bt (co x) 0 = true then 1 else 0 := by
  unfold q_hasC
  have h0 : (0 : Int32).toInt64 &&& 63 = Int64.ofNat 0 := by decide
  rw [h0]
  have h : ((x >>> Int64.ofNat 0) &&& 1 = 1) ↔ bt (co x) 0 = true := by rw [and1, lb_sshr (by omega), bt_co]; simp
  by_cases hb : bt (co x) 0 = true
  · rw [if_pos hb, if_pos (h.mpr hb)]
  · rw [if_neg hb, if_neg (fun e => hb (h.mp e))]
theorem lb_i32 {c : Int32} {i : Nat} (hi : i < 32) : lb c.toInt64 i = bt c i := by
  unfold bt lb
  rw [Int32.toBitVec_toInt64, BitVec.getLsbD_signExtend]
  have : i < 64 := by omega
  simp [hi, this]
theorem lb_mask {i : Nat} : lb 4294967295 i = decide (i < 32) := by
  rw [show (4294967295 : Int64) = Int64.ofNat (2 ^ 32 - 1) from rfl, lb_ofN, Nat.testBit_two_pow_sub_one]
  by_cases h : i < 32
  · have : i < 64 := by omega
    simp [h, this]
  · simp [h]
theorem lb_join {x : Int64} {c : Int32} {i : Nat} (hi : i < 64) : lb (q_join x c) i = if i < 32 then bt c i else lb x i := by
  unfold q_join
  have h0 : (32 : Int32).toInt64 &&& 63 = Int64.ofNat 32 := by decide
  rw [h0, lb_or, lb_and, lb_shl (by omega), lb_mask]
  by_cases h : i < 32
  · simp [h, lb_i32 h]
  · rw [lb_sshr (by omega), show 32 + (i - 32) = i by omega]
    simp [h, hi]
theorem co_join {x : Int64} {c : Int32} : co (q_join x c) = c := by
  apply bt_ext
  intro i hi
  rw [bt_co, lb_join (by omega), if_pos hi]
  simp [hi]
theorem sg_join {x : Int64} {c : Int32} {j : Nat} (hj : j < 26) : sg (q_join x c) j = sg x j := by
  unfold sg
  rw [lb_join (by omega), if_neg (by omega)]
theorem co_or {x y : Int64} : co (x ||| y) = co x ||| co y := by
  apply bt_ext
  intro i hi
  rw [bt_or, bt_co, bt_co, bt_co, lb_or]
  simp [hi]
theorem sg_or {x y : Int64} {j : Nat} : sg (x ||| y) j = (sg x j || sg y j) := lb_or
theorem cz_1 : co 1 = 1 := rfl
theorem cz_2 : co 2 = 2 := rfl
theorem cz_0 : co 0 = 0 := rfl
theorem sg_0 {j : Nat} : sg 0 j = false := lb_0
theorem sg_1 {j : Nat} : sg 1 j = false := by unfold sg; rw [lb_1]; simp
theorem sg_2 {j : Nat} : sg 2 j = false := by unfold sg; rw [lb_2]; simp; omega
theorem co_wo {x : Int64} {j : Nat} (hj : j < 26) : co (q_wo x (Int32.ofNat j)) = co x := by
  apply bt_ext
  intro i hi
  unfold q_wo
  rw [amt_l hj, bt_co, bt_co, lb_and, lb_not, lb_p2 (by omega)]
  have h1 : ¬ i = 32 + j := by omega
  have h2 : i < 64 := by omega
  simp [hi, h1, h2]
theorem sg_wo {x : Int64} {j i : Nat} (hj : j < 26) (hi : i < 26) : sg (q_wo x (Int32.ofNat j)) i = (sg x i && !decide (i = j)) := by
  unfold q_wo sg
  rw [amt_l hj, lb_and, lb_not, lb_p2 (by omega)]
  have h2 : 32 + i < 64 := by omega
  by_cases h : i = j
  · simp [h]
  · have : ¬ 32 + i = 32 + j := by omega
    simp [h, h2]
theorem co_em {j : Nat} (hj : j < 26) : co (1 <<< ((32 + Int32.ofNat j).toInt64 &&& 63) ||| 1) = 1 := by
  apply bt_ext
  intro i hi
  rw [amt_l hj, co_or, bt_or, bt_co, lb_p2 (by omega), cz_1]
  have h1 : ¬ i = 32 + j := by omega
  simp [h1]
theorem sg_em {j i : Nat} (hj : j < 26) : sg (1 <<< ((32 + Int32.ofNat j).toInt64 &&& 63) ||| 1) i = decide (i = j) := by
  rw [amt_l hj, sg_or, sg_1]
  unfold sg
  rw [lb_p2 (by omega)]
  by_cases h : i = j
  · simp [h]
  · have : ¬ 32 + i = 32 + j := by omega
    simp [h]
theorem co_ex {k : Nat} (hk : k < 16) : co (1 <<< ((Int32.ofNat k).toInt64 &&& 63)) = (1 : Int32) <<< (Int32.ofNat k &&& 31) := by
  apply bt_ext
  intro i hi
  rw [amt_c (by omega), bt_co, lb_p2 (by omega), bt_p2 (by omega)]
  simp [hi]
theorem sg_ex {k i : Nat} (hk : k < 16) : sg (1 <<< ((Int32.ofNat k).toInt64 &&& 63)) i = false := by
  unfold sg
  rw [amt_c (by omega), lb_p2 (by omega)]
  simp
  omega
theorem co_bh {x y : Int64} : co (q_behind x y) = (co x &&& (-2)) ||| co y := co_join
theorem sg_bh {x y : Int64} {j : Nat} (hj : j < 26) : sg (q_behind x y) j = (sg x j || sg y j) := (sg_join hj).trans sg_or
theorem co_bs {x y : Int64} : co (q_beside x y) = q_gr (co x) (co y) := co_join
theorem sg_bs {x y : Int64} {j : Nat} (hj : j < 26) : sg (q_beside x y) j = (sg x j || sg y j) := (sg_join hj).trans sg_or
