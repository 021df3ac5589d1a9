theorem bt_gr {x y : Int32} {i : Nat} : bt (q_Codes_greater x y) i = true ↔ (bt x i = true ∧ ∃ j, j ≤ i ∧ bt y j = true) ∨ (bt y i = true ∧ ∃ j, j ≤ i ∧ bt x j = true) := by
  have key : ∀ z w : Int32, bt (z &&& -(w &&& -w)) i = true ↔ (bt z i = true ∧ ∃ j, j ≤ i ∧ bt w j = true) := by
    intro z w
    by_cases hw : w = 0
    · subst hw
      constructor
      · intro h
        rw [show (-(0 &&& -0) : Int32) = 0 from rfl, bt_and, bt_0] at h
        simp at h
      · rintro ⟨_, j, _, h⟩
        rw [bt_0] at h
        cases h
    · obtain ⟨t, ht, hb, hl⟩ := bt_low hw
      rw [bt_and, bt_nlo hb hl]
      constructor
      · intro h
        simp only [Bool.and_eq_true, decide_eq_true_eq] at h
        exact ⟨h.1, t, h.2.2, hb⟩
      · rintro ⟨h1, j, hj, h2⟩
        have h3 : i < 32 := Nat.lt_of_not_le fun h => by rw [bt_hi h] at h1; cases h1
        have h4 : t ≤ j := Nat.le_of_not_lt fun h => by rw [hl j h] at h2; cases h2
        simp only [Bool.and_eq_true, decide_eq_true_eq]
        exact ⟨h1, h3, by omega⟩
  unfold q_Codes_greater
  rw [bt_or, Bool.or_eq_true, key, key]
def am1 (x : Int32) : Prop := ∀ i j, bt x i = true → bt x j = true → i = j
def zsub (x y : Int32) : Prop := ∀ i, bt x i = true → bt y i = true
theorem am1_0 : am1 0 := fun i j h => by rw [bt_0] at h; cases h
theorem am1_1 : am1 1 := fun i j h k => by rw [bt_1] at h k; simp at h k; omega
theorem am1_2 : am1 2 := fun i j h k => by rw [bt_2] at h k; simp at h k; omega
theorem am1_p2 {c : Nat} (hc : c < 32) : am1 ((1 : Int32) <<< (Int32.ofNat c &&& 31)) := fun i j h k => by rw [bt_p2 hc] at h k; simp at h k; omega
theorem am1_gr {x y : Int32} (hx : am1 x) (hy : am1 y) : am1 (q_Codes_greater x y) := by
  intro i j hi hj
  rcases bt_gr.mp hi with ⟨h1, a, ha, h2⟩ | ⟨h1, a, ha, h2⟩ <;> rcases bt_gr.mp hj with ⟨k1, b, hb, k2⟩ | ⟨k1, b, hb, k2⟩
  · exact hx _ _ h1 k1
  · have := hx _ _ h1 k2
    have := hy _ _ h2 k1
    omega
  · have := hy _ _ h1 k2
    have := hx _ _ h2 k1
    omega
  · exact hy _ _ h1 k1
theorem sub_gr {x y z w : Int32} (h : zsub x z) (k : zsub y w) : zsub (q_Codes_greater x y) (q_Codes_greater z w) := by
  intro i hi
  rcases bt_gr.mp hi with ⟨h1, a, ha, h2⟩ | ⟨h1, a, ha, h2⟩
  · exact bt_gr.mpr (Or.inl ⟨h _ h1, a, ha, k _ h2⟩)
  · exact bt_gr.mpr (Or.inr ⟨k _ h1, a, ha, h _ h2⟩)
theorem am1_bT {x : Int32} (hb : b16 x) (hx : am1 x) : am1 (q_Codes_behindTrap x) := by
  intro i j hi hj
  rw [bt_bT hb] at hi hj
  by_cases i0 : i = 0
  · rw [if_pos i0] at hi
    by_cases j0 : j = 0
    · omega
    · rw [if_neg j0] at hj
      by_cases j1 : j = 1
      · rw [if_pos j1] at hj
        rcases Bool.or_eq_true _ _ |>.mp hi with h | h
        · have := hx _ _ h hj; omega
        · have := hx _ _ h hj; omega
      · rw [if_neg j1] at hj
        rcases Bool.or_eq_true _ _ |>.mp hi with h | h
        · have := hx _ _ h hj; omega
        · have := hx _ _ h hj; omega
  · rw [if_neg i0] at hi
    by_cases i1 : i = 1
    · rw [if_pos i1] at hi
      by_cases j0 : j = 0
      · rw [if_pos j0] at hj
        rcases Bool.or_eq_true _ _ |>.mp hj with h | h
        · have := hx _ _ h hi; omega
        · have := hx _ _ h hi; omega
      · rw [if_neg j0] at hj
        by_cases j1 : j = 1
        · omega
        · rw [if_neg j1] at hj
          have := hx _ _ hi hj; omega
    · rw [if_neg i1] at hi
      by_cases j0 : j = 0
      · rw [if_pos j0] at hj
        rcases Bool.or_eq_true _ _ |>.mp hj with h | h
        · have := hx _ _ h hi; omega
        · have := hx _ _ h hi; omega
      · rw [if_neg j0] at hj
        by_cases j1 : j = 1
        · rw [if_pos j1] at hj
          have := hx _ _ hi hj; omega
        · rw [if_neg j1] at hj
          have := hx _ _ hi hj; omega
theorem sub_bT {x y : Int32} (hx : b16 x) (hy : b16 y) (h : zsub x y) : zsub (q_Codes_behindTrap x) (q_Codes_behindTrap y) := by
  intro i hi
  rw [bt_bT hx] at hi
  rw [bt_bT hy]
  by_cases i0 : i = 0
  · rw [if_pos i0] at hi ⊢
    rcases Bool.or_eq_true _ _ |>.mp hi with k | k
    · rw [h _ k]; rfl
    · rw [h _ k, Bool.or_true]
  · rw [if_neg i0] at hi ⊢
    by_cases i1 : i = 1
    · rw [if_pos i1] at hi ⊢
      exact h _ hi
    · rw [if_neg i1] at hi ⊢
      exact h _ hi
theorem sub_rf {x : Int32} : zsub x x := fun _ h => h
theorem sub_0 {x : Int32} : zsub 0 x := fun i h => by rw [bt_0] at h; cases h
theorem and1_bt {x : Int32} : x &&& 1 = 0 ↔ bt x 0 = false := by
  rw [bt_az]
  constructor
  · intro h
    cases hb : bt x 0
    · rfl
    · have := h 0 hb
      rw [bt_1] at this
      simp at this
  · intro h i hi
    rw [bt_1]
    by_cases h0 : i = 0
    · subst h0
      rw [h] at hi
      cases hi
    · simp [h0]
theorem am1_m2 {x : Int32} (h : am1 x) (h0 : bt x 0 = true) : x &&& (-2) = 0 := by
  apply bt_az.mpr
  intro i hi
  rw [bt_m2, h i 0 hi h0]
  simp
theorem and_m2 {x : Int32} (h0 : bt x 0 = false) : x &&& (-2) = x := by
  apply bt_ext
  intro i hi
  rw [bt_and, bt_m2]
  by_cases h : i = 0
  · subst h
    simp [h0]
  · simp [h, hi]
def nz (β : Nat → Int32) (m : Int32) (j : Nat) : Bool := !decide (m &&& β j = 0)
def bO (β : Nat → Int32) : Prop := ∀ i j, i < 26 → j < 26 → i ≠ j → β i &&& β j = 0
theorem nz_0 {β : Nat → Int32} {j : Nat} : nz β 0 j = false := by simp [nz]
theorem nz_iff {β : Nat → Int32} {m : Int32} {j : Nat} : nz β m j = true ↔ ∃ i, bt m i = true ∧ bt (β j) i = true := by
  unfold nz
  rw [Bool.not_eq_true', decide_eq_false_iff_not, bt_az]
  constructor
  · intro h
    apply Classical.byContradiction
    intro hn
    apply h
    intro i hi
    cases hb : bt (β j) i
    · rfl
    · exact absurd ⟨i, hi, hb⟩ hn
  · rintro ⟨i, h1, h2⟩ h
    rw [h i h1] at h2
    cases h2
theorem nz_or {β : Nat → Int32} {m k : Int32} {j : Nat} : nz β (m ||| k) j = (nz β m j || nz β k j) := by
  rw [Bool.eq_iff_iff, Bool.or_eq_true, nz_iff, nz_iff, nz_iff]
  constructor
  · rintro ⟨i, h1, h2⟩
    rw [bt_or, Bool.or_eq_true] at h1
    rcases h1 with h1 | h1
    · exact Or.inl ⟨i, h1, h2⟩
    · exact Or.inr ⟨i, h1, h2⟩
  · rintro (⟨i, h1, h2⟩ | ⟨i, h1, h2⟩)
    · exact ⟨i, by rw [bt_or, h1]; rfl, h2⟩
    · exact ⟨i, by rw [bt_or, h1, Bool.or_true], h2⟩
theorem nz_b {β : Nat → Int32} {l j : Nat} (hO : bO β) (hl : l < 26) (hj : j < 26) (h0 : β l ≠ 0) : nz β (β l) j = decide (j = l) := by
  by_cases h : j = l
  · subst h
    have : nz β (β j) j = true := by
      obtain ⟨i, _, hi⟩ := bt_nz h0
      exact nz_iff.mpr ⟨i, hi, hi⟩
    simp [this]
  · unfold nz
    rw [hO l j hl hj (fun e => h e.symm)]
    simp [h]
theorem nz_wo {β : Nat → Int32} {m : Int32} {l j : Nat} (hO : bO β) (hl : l < 26) (hj : j < 26) : nz β (m &&& (β l ^^^ (-1))) j = (nz β m j && !decide (j = l)) := by
  by_cases h : j = l
  · subst h
    have : ¬ nz β (m &&& (β j ^^^ (-1))) j = true := by
      rw [nz_iff]
      rintro ⟨i, h1, h2⟩
      rw [bt_and, bt_not, h2] at h1
      simp at h1
    rw [Bool.eq_false_iff.mpr this]
    simp
  · rw [Bool.eq_iff_iff, Bool.and_eq_true, nz_iff, nz_iff]
    have ho := bt_az.mp (hO l j hl hj (fun e => h e.symm))
    constructor
    · rintro ⟨i, h1, h2⟩
      rw [bt_and, Bool.and_eq_true] at h1
      exact ⟨⟨i, h1.1, h2⟩, by simp [h]⟩
    · rintro ⟨⟨i, h1, h2⟩, _⟩
      refine ⟨i, ?_, h2⟩
      have hi : i < 32 := Nat.lt_of_not_le fun h => by rw [bt_hi h] at h1; cases h1
      rw [bt_and, bt_not, h1]
      cases hb : bt (β l) i
      · simp [hi]
      · rw [ho i hb] at h2
        cases h2
theorem or_wo {x y : Int32} (h : x &&& y = 0) : (x ||| y) &&& (y ^^^ (-1)) = x := by
  apply bt_ext
  intro i hi
  rw [bt_and, bt_or, bt_not]
  have := bt_az.mp h i
  cases hx : bt x i
  · cases bt y i <;> simp
  · simp [this hx, hi]
theorem wo_of {x y : Int32} (h : x &&& y = 0) : x &&& (y ^^^ (-1)) = x := by
  apply bt_ext
  intro i hi
  rw [bt_and, bt_not]
  have := bt_az.mp h i
  cases hx : bt x i
  · simp
  · simp [this hx, hi]
