def bt (x : Int32) (i : Nat) : Bool := x.toBitVec.getLsbD i
def lb (x : Int64) (i : Nat) : Bool := x.toBitVec.getLsbD i
theorem bt_ext {x y : Int32} (h : ∀ i, i < 32 → bt x i = bt y i) : x = y := by
  apply Int32.toBitVec_inj.mp
  exact BitVec.eq_of_getLsbD_eq fun i hi => h i hi
theorem bt_hi {x : Int32} {i : Nat} (h : 32 ≤ i) : bt x i = false := BitVec.getLsbD_of_ge _ _ h
theorem bt_or {x y : Int32} {i : Nat} : bt (x ||| y) i = (bt x i || bt y i) := by simp [bt]
theorem bt_and {x y : Int32} {i : Nat} : bt (x &&& y) i = (bt x i && bt y i) := by simp [bt]
theorem bt_xor {x y : Int32} {i : Nat} : bt (x ^^^ y) i = (bt x i ^^ bt y i) := by simp [bt]
theorem bt_m1 {i : Nat} : bt (-1) i = decide (i < 32) := by
  show (BitVec.getLsbD (BitVec.allOnes 32) i) = _
  exact BitVec.getLsbD_allOnes
theorem bt_not {x : Int32} {i : Nat} : bt (x ^^^ (-1)) i = (decide (i < 32) && !bt x i) := by
  rw [bt_xor, bt_m1]
  by_cases h : i < 32
  · simp [h]
  · simp [h, bt_hi (Nat.le_of_not_lt h)]
theorem bt_0 {i : Nat} : bt 0 i = false := by
  show (BitVec.getLsbD (0#32) i) = _
  simp
theorem bt_neg {x : Int32} {i : Nat} : bt (-x) i = (decide (i < 32) && (bt x i ^^ decide (∃ j, j < i ∧ bt x j = true))) := by
  unfold bt
  rw [Int32.toBitVec_neg, BitVec.getLsbD_neg]
  by_cases h : i < 32
  · simp [h]
  · simp [h, show x.toBitVec.getLsbD i = false from bt_hi (Nat.le_of_not_lt h)]
theorem bt_z {x : Int32} : x = 0 ↔ ∀ i, bt x i = false := ⟨fun h i => by rw [h, bt_0], fun h => bt_ext fun i _ => by rw [h, bt_0]⟩
theorem bt_nz {x : Int32} (h : x ≠ 0) : ∃ i, i < 32 ∧ bt x i = true := by
  apply Classical.byContradiction
  intro hn
  apply h
  apply bt_z.mpr
  intro i
  by_cases hi : i < 32
  · cases hb : bt x i
    · rfl
    · exact absurd ⟨i, hi, hb⟩ hn
  · exact bt_hi (Nat.le_of_not_lt hi)
theorem bt_az {x y : Int32} : x &&& y = 0 ↔ ∀ i, bt x i = true → bt y i = false := by
  rw [bt_z]
  constructor
  · intro h i hx
    have := h i
    rw [bt_and, hx, Bool.true_and] at this
    exact this
  · intro h i
    rw [bt_and]
    cases hx : bt x i
    · rfl
    · rw [h i hx]; rfl
theorem bt_low {x : Int32} (h : x ≠ 0) : ∃ t, t < 32 ∧ bt x t = true ∧ ∀ j, j < t → bt x j = false := by
  obtain ⟨i, hi, hb⟩ := bt_nz h
  induction i using Nat.strongRecOn with
  | _ i ih =>
    by_cases hx : ∃ j, j < i ∧ bt x j = true
    · obtain ⟨j, hj, hbj⟩ := hx
      exact ih j hj (by omega) hbj
    · exact ⟨i, hi, hb, fun j hj => by
        cases hq : bt x j
        · rfl
        · exact absurd ⟨j, hj, hq⟩ hx⟩
theorem bt_lo1 {x : Int32} {t : Nat} (hb : bt x t = true) (hl : ∀ j, j < t → bt x j = false) {i : Nat} : bt (x &&& -x) i = decide (i = t) := by
  have ht : t < 32 := Nat.lt_of_not_le fun h => by rw [bt_hi h] at hb; cases hb
  rw [bt_and, bt_neg]
  by_cases h : i = t
  · subst h
    have : ¬ ∃ j, j < i ∧ bt x j = true := fun ⟨j, hj, hq⟩ => by rw [hl j hj] at hq; cases hq
    simp [hb, ht, this]
  · by_cases h2 : i < t
    · simp [hl i h2, h]
    · have : ∃ j, j < i ∧ bt x j = true := ⟨t, by omega, hb⟩
      simp [this, h]
      exact fun h _ => h
theorem bt_nlo {x : Int32} {t : Nat} (hb : bt x t = true) (hl : ∀ j, j < t → bt x j = false) {i : Nat} : bt (-(x &&& -x)) i = decide (i < 32 ∧ t ≤ i) := by
  have ht : t < 32 := Nat.lt_of_not_le fun h => by rw [bt_hi h] at hb; cases hb
  rw [bt_neg, bt_lo1 hb hl]
  by_cases h : i = t
  · subst h
    have : ¬ ∃ j, j < i ∧ bt (x &&& -x) j = true := fun ⟨j, hj, hq⟩ => by
      rw [bt_lo1 hb hl] at hq
      simp at hq
      omega
    simp only [ht, this]
    simp
  · by_cases h2 : i < t
    · have : ¬ ∃ j, j < i ∧ bt (x &&& -x) j = true := fun ⟨j, hj, hq⟩ => by
        rw [bt_lo1 hb hl] at hq
        simp at hq
        omega
      have h3 : ¬ t ≤ i := by omega
      simp [this, h, h3]
    · have : ∃ j, j < i ∧ bt (x &&& -x) j = true := ⟨t, by omega, by rw [bt_lo1 hb hl]; simp⟩
      have h3 : t ≤ i := by omega
      simp [this, h, h3]
def b16 (x : Int32) : Prop := ∀ i, 16 ≤ i → bt x i = false
theorem lo_pow {x : Int32} {t : Nat} (hb : bt x t = true) (hl : ∀ j, j < t → bt x j = false) (ht : t < 16) : (x &&& -x).toInt = 2 ^ t := by
  have h1 : x &&& -x = Int32.ofNat (2 ^ t) := by
    apply bt_ext
    intro i hi
    rw [bt_lo1 hb hl]
    unfold bt
    have : (Int32.ofNat (2 ^ t)).toBitVec = BitVec.ofNat 32 (2 ^ t) := rfl
    rw [this, BitVec.getLsbD_ofNat, Nat.testBit_two_pow]
    by_cases h : t = i
    · simp [h, hi]
    · have : ¬ i = t := fun e => h e.symm
      simp [h, this]
  rw [h1, Int32.toInt_ofNat_of_lt (Nat.lt_of_le_of_lt (Nat.pow_le_pow_right (by decide) (Nat.le_of_lt ht)) (by decide))]
  exact Int.natCast_pow 2 t
theorem gr_eq {x y : Int32} (hx : b16 x) (hy : b16 y) : q_gr x y = q_Codes_greater x y := by
  unfold q_gr q_Codes_greater
  by_cases h1 : x = 0
  · subst h1
    rw [if_pos rfl]
    apply bt_ext
    intro i _
    simp [bt_0]
  · by_cases h2 : y = 0
    · subst h2
      rw [if_neg h1, if_pos rfl]
      apply bt_ext
      intro i _
      simp [bt_0]
    · rw [if_neg h1, if_neg h2]
      obtain ⟨s, hs, hsb, hsl⟩ := bt_low h1
      obtain ⟨t, ht, htb, htl⟩ := bt_low h2
      have hs16 : s < 16 := Nat.lt_of_not_le fun h => by rw [hx s h] at hsb; cases hsb
      have ht16 : t < 16 := Nat.lt_of_not_le fun h => by rw [hy t h] at htb; cases htb
      have e1 := lo_pow hsb hsl hs16
      have e2 := lo_pow htb htl ht16
      apply bt_ext
      intro i hi
      by_cases hc : y &&& -y < x &&& -x
      · rw [if_pos hc]
        rw [Int32.lt_iff_toInt_lt, e1, e2] at hc
        have hts : t < s := by
          apply Nat.lt_of_not_le
          intro hle
          have : (2 : Nat) ^ s ≤ 2 ^ t := Nat.pow_le_pow_right (by decide) hle
          have h3 : ((2 : Nat) ^ t : Int) < ((2 : Nat) ^ s : Int) := hc
          have h4 : (2 : Nat) ^ t < 2 ^ s := by exact_mod_cast h3
          omega
        rw [bt_and, bt_or, bt_or, bt_and, bt_and, bt_nlo hsb hsl, bt_nlo htb htl]
        by_cases q1 : s ≤ i
        · have q2 : t ≤ i := by omega
          simp [hi, q1, q2]
        · simp [q1, hsl i (by omega)]
      · rw [if_neg hc]
        rw [Int32.lt_iff_toInt_lt, e1, e2] at hc
        have hts : s ≤ t := by
          apply Nat.le_of_not_lt
          intro hlt
          apply hc
          have h4 : (2 : Nat) ^ t < 2 ^ s := Nat.pow_lt_pow_right (by decide) hlt
          exact_mod_cast h4
        rw [bt_and, bt_or, bt_or, bt_and, bt_and, bt_nlo hsb hsl, bt_nlo htb htl]
        by_cases q1 : t ≤ i
        · have q2 : s ≤ i := by omega
          simp [hi, q1, q2]
        · simp [q1, htl i (by omega)]
