section G1
variable {T : mw_A} {E : ck_E} {β : Nat → Int32}
def lT (T : mw_A) (ys : List kd_R) : List (Nat × Int32 × Int32) := ys.map (fun y => (y.1.2, T 25 y.1.1.toNatClampNeg, T 26 y.1.1.toNatClampNeg))
theorem lW_z : ∀ (l : List (Nat × Int32 × Int32)) (z : Int32), lW l z = z ||| lW l 0 := by
  intro l
  induction l with
  | nil => intro z; show z = z ||| 0; rw [or_0]
  | cons x xs ih =>
    intro z
    show lW xs (z ||| x.2.1) = z ||| lW xs (0 ||| x.2.1)
    rw [ih (z ||| x.2.1), ih (0 ||| x.2.1)]
    apply bt_ext
    intro i _
    rw [bt_or, bt_or, bt_or, bt_or, bt_or, bt_0, Bool.false_or, Bool.or_assoc]
theorem lW_wO : ∀ ys : List kd_R, lW (lT T ys) 0 = wO T (ys.map (fun y => y.1.1)) := by
  intro ys
  induction ys with
  | nil => rfl
  | cons y ys ih =>
    show lW (lT T ys) (0 ||| T 25 y.1.1.toNatClampNeg) = T 25 y.1.1.toNatClampNeg ||| wO T (ys.map (fun y => y.1.1))
    rw [lW_z, ih]
    apply bt_ext
    intro i _
    rw [bt_or, bt_or, bt_or, bt_0, Bool.false_or]
theorem lO_oS {kd : Int32} (hkd : kd = 3 ∨ kd = 9 ∨ kd = 10) : ∀ (ys : List kd_R) (z : Int32), b16 z → (∀ y ∈ ys, b16 (T 26 y.1.1.toNatClampNeg)) → lO kd (lT T ys) z = ys.foldl (fun c y => oS kd c (T 26 y.1.1.toNatClampNeg)) z := by
  intro ys
  induction ys with
  | nil => intro z _ _; rfl
  | cons y ys ih =>
    intro z hz hy
    have hb := hy y (by simp)
    have hs : sC kd z (T 26 y.1.1.toNatClampNeg) = oS kd z (T 26 y.1.1.toNatClampNeg) := by
      unfold sC oS
      rcases hkd with e | e | e
      · rw [if_pos e, if_pos e]
      · have n3 : ¬ kd = 3 := by rw [e]; decide
        have n10 : ¬ kd = 10 := by rw [e]; decide
        rw [if_neg n3, if_neg n3, if_neg n10, if_neg n10, if_pos e]
      · have n3 : ¬ kd = 3 := by rw [e]; decide
        rw [if_neg n3, if_neg n3, if_pos e, if_pos e, gr_eq hz hb]
    show lO kd (lT T ys) (sC kd z (T 26 y.1.1.toNatClampNeg)) = List.foldl _ (oS kd z (T 26 y.1.1.toNatClampNeg)) ys
    rw [hs]
    exact ih _ (b16_oS hz hb) (fun w hw => hy w (List.mem_cons_of_mem _ hw))
theorem cA_oE {kd v : Int32} {y : kd_R} {ys : List kd_R} (h : (kd = 3 ∨ kd = 9 ∨ kd = 10) ∨ (ys = [] ∧ (kd = 4 ∨ kd = 5 ∨ kd = 6 ∨ kd = 8))) (hy : b16 (T 26 y.1.1.toNatClampNeg)) (hb : ∀ w ∈ ys, b16 (T 26 w.1.1.toNatClampNeg)) : cA kd v (lT T (y :: ys)) = oE kd (ys.foldl (fun c y => oS kd c (T 26 y.1.1.toNatClampNeg)) (T 26 y.1.1.toNatClampNeg)) := by
  show (if kd = 1 then 2 else if kd = 4 then T 26 y.1.1.toNatClampNeg &&& (-2) else if kd = 6 then q_Codes_behindTrap (T 26 y.1.1.toNatClampNeg) else if kd = 7 then (1 : Int32) <<< (v &&& 31) else lO kd (lT T ys) (T 26 y.1.1.toNatClampNeg)) = _
  unfold oE
  rcases h with h | ⟨h0, h⟩
  · have n1 : ¬ kd = 1 := by rcases h with e | e | e <;> (rw [e]; decide)
    have n4 : ¬ kd = 4 := by rcases h with e | e | e <;> (rw [e]; decide)
    have n6 : ¬ kd = 6 := by rcases h with e | e | e <;> (rw [e]; decide)
    have n7 : ¬ kd = 7 := by rcases h with e | e | e <;> (rw [e]; decide)
    rw [if_neg n1, if_neg n4, if_neg n6, if_neg n7, if_neg n6, if_neg n4]
    exact lO_oS h ys _ hy hb
  · subst h0
    simp only [List.foldl_nil]
    rcases h with e | e | e | e
    · rw [if_neg (by rw [e]; decide), if_pos e, if_neg (by rw [e]; decide), if_pos e]
    · rw [if_neg (by rw [e]; decide), if_neg (by rw [e]; decide), if_neg (by rw [e]; decide), if_neg (by rw [e]; decide), if_neg (by rw [e]; decide), if_neg (by rw [e]; decide)]
      rfl
    · rw [if_neg (by rw [e]; decide), if_neg (by rw [e]; decide), if_pos e, if_pos e, low_eq hy]
    · rw [if_neg (by rw [e]; decide), if_neg (by rw [e]; decide), if_neg (by rw [e]; decide), if_neg (by rw [e]; decide), if_neg (by rw [e]; decide), if_neg (by rw [e]; decide)]
      rfl
theorem wO_mask : ∀ (ys : List kd_R) (u v : Nat), pz ys u v → (∀ y ∈ ys, y.2.2.2.1 ≤ y.2.2.2.2) → (∀ y ∈ ys, ∀ i, bt (T 25 y.1.1.toNatClampNeg) i = decide (y.2.2.2.1 ≤ i ∧ i < y.2.2.2.2)) → ∀ i, bt (wO T (ys.map (fun y => y.1.1))) i = decide (u ≤ i ∧ i < v) := by
  intro ys
  induction ys with
  | nil =>
    intro u v h _ _ i
    have e : u = v := h
    show bt 0 i = _
    rw [bt_0]
    have : ¬ (u ≤ i ∧ i < v) := by omega
    simp [this]
  | cons y ys ih =>
    intro u v h hle hm i
    obtain ⟨h1, h2⟩ := h
    have l1 := hle y (by simp)
    have l2 := pz_le ys _ _ h2 (fun z hz => hle z (List.mem_cons_of_mem _ hz))
    show bt (T 25 y.1.1.toNatClampNeg ||| wO T (ys.map (fun y => y.1.1))) i = _
    rw [bt_or, hm y (by simp) i, ih _ _ h2 (fun z hz => hle z (List.mem_cons_of_mem _ hz)) (fun z hz => hm z (List.mem_cons_of_mem _ hz)) i]
    by_cases a1 : y.2.2.2.1 ≤ i ∧ i < y.2.2.2.2
    · have : u ≤ i ∧ i < v := by omega
      simp [a1, this]
    · by_cases a2 : y.2.2.2.2 ≤ i ∧ i < v
      · have : u ≤ i ∧ i < v := by omega
        simp [a2, this]
      · have : ¬ (u ≤ i ∧ i < v) := by omega
        simp only [a1, a2, this, decide_false, Bool.or_self]
theorem chn_lch : ∀ (ys : List kd_R) (q : Int32) (c : Option Nat), (∀ y ∈ ys, egI E y.1.2 2 4 = some (T 26 y.1.1.toNatClampNeg)) → chn T E (ys.map (fun y => y.1)) q c → lch E (lT T ys) c := by
  intro ys
  induction ys with
  | nil => intro q c _ h; exact h.2
  | cons y ys ih =>
    intro q c h4 h
    obtain ⟨q1, q2, q3, q4, c', q5, q6⟩ := h
    exact ⟨q2, q4, h4 y (by simp), c', q5, ih _ c' (fun z hz => h4 z (List.mem_cons_of_mem _ hz)) q6⟩
theorem nR_1 {n t : Nat} {Γ : Nat → Bool} {x : kd_R} (h : nR T E β n Γ t x) : x.2.1.2 ≤ 2600 ∧ x.2.2.2.2 ≤ 30 := by
  cases n with
  | zero => exact absurd h id
  | succ n => exact ⟨h.2.2.2.1, h.2.2.2.2.2.2.2.2.2.1⟩
theorem nR_mk {n t : Nat} {Γ : Nat → Bool} {pn a lo hi alo ahi u v : Nat} {kd vl : Int32} {c : Option Nat} {y : kd_R} {ys : List kd_R} (hpl : lo ≤ pn) (hph : pn < hi) (hh : hi ≤ 2600) (hal : alo ≤ a) (hah : a < ahi) (ht : t ≤ 14) (h20 : T 20 pn = kd) (hnc : E a = some (nC kd vl c (T 25 pn) (T 26 pn) none)) (hch : chn T E ((y :: ys).map (fun y => y.1)) (T 23 pn) c) (hl : (y :: ys).length ≤ 2600) (h25 : T 25 pn = wO T ((y :: ys).map (fun y => y.1.1))) (h26 : T 26 pn = oE kd (ys.foldl (fun c y => oS kd c (T 26 y.1.1.toNatClampNeg)) (T 26 y.1.1.toNatClampNeg)))
    (hk : ∀ z ∈ y :: ys, lo ≤ z.2.1.1 ∧ z.2.1.2 ≤ hi ∧ (pn < z.2.1.1 ∨ z.2.1.2 ≤ pn) ∧ (alo ≤ z.2.2.1.1 ∧ z.2.2.1.2 ≤ ahi) ∧ (a < z.2.2.1.1 ∨ z.2.2.1.2 ≤ a ∨ (alo < a ∧ a + 2 = ahi ∧ kd = 4)) ∧ nR T E β n (gN T Γ pn) (ztN T t pn) z) (hcov : ∀ q, lo ≤ q → q < hi → q = pn ∨ ∃ z ∈ y :: ys, z.2.1.1 ≤ q ∧ q < z.2.1.2) (hz : pz (y :: ys) u v) (hkc : kc T β Γ t pn u v vl (y :: ys)) : nR T E β (n + 1) Γ t ((Int32.ofNat pn, a), (lo, hi), (alo, ahi), (u, v)) := by
  have hcl : (Int32.ofNat pn).toNatClampNeg = pn := cl_of (by omega)
  have huv : ∀ z ∈ y :: ys, z.2.2.2.1 ≤ z.2.2.2.2 := fun z hz => nR_uv (hk z hz).2.2.2.2.2
  have hv30 : v ≤ 30 := by
    have : ∀ (l : List kd_R) (u : Nat), l ≠ [] → pz l u v → (∀ z ∈ l, z.2.2.2.2 ≤ 30) → v ≤ 30 := by
      intro l
      induction l with
      | nil => intro u h; exact absurd rfl h
      | cons w ws ih =>
        intro u _ hp hb
        cases ws with
        | nil =>
          have : w.2.2.2.2 = v := hp.2
          have := hb w (by simp)
          omega
        | cons x xs => exact ih _ (by simp) hp.2 (fun z hz => hb z (List.mem_cons_of_mem _ hz))
    exact this _ _ (by simp) hz (fun z hz => (nR_1 (hk z hz).2.2.2.2.2).2)
  refine ⟨gi_of (by omega) (by decide), by simp only; rw [hcl]; exact hpl, by simp only; rw [hcl]; exact hph, hh, ⟨hal, hah⟩, ?_, ?_, ?_, pz_le _ _ _ hz huv, hv30, ?_, vl, c, y :: ys, nC_1 hnc, nC_2 hnc, ?_, hl, ?_, ?_, ?_, ?_, ?_, ht⟩
  · simp only; rw [hcl, h20]; exact nC_0 hnc
  · simp only; rw [hcl]; exact nC_3 hnc
  · simp only; rw [hcl]; exact nC_4 hnc
  · simp only
    rw [hcl, h25]
    exact wO_mask _ _ _ hz huv (fun z hz => nR_mask (hk z hz).2.2.2.2.2)
  · simp only; rw [hcl]; exact hch
  · simp only; rw [hcl]
    intro z hz
    obtain ⟨b1, b2, b3, b4, b5, b6⟩ := hk z hz
    refine ⟨b1, b2, b3, b4, ?_, b6⟩
    rcases b5 with e | e | ⟨e1, e2, e3⟩
    · exact Or.inl e
    · exact Or.inr (Or.inl e)
    · exact Or.inr (Or.inr ⟨e1, e2, by simp only; rw [hcl, h20]; exact e3⟩)
  · simp only; rw [hcl]; exact hcov
  · exact fun _ => hz
  · simp only
    rw [hcl]
    show T 26 pn = oE (T 20 pn) _
    rw [h20]
    exact h26
  · simp only; rw [hcl]; exact hkc
theorem nR_leaf {n t : Nat} {Γ : Nat → Bool} {pn a u v : Nat} {kd vl : Int32} (hp : pn < 2600) (ht : t ≤ 14) (h20 : T 20 pn = kd) (h23 : T 23 pn = -1) (hnc : E a = some (nC kd vl none (T 25 pn) (T 26 pn) none)) (huv : u ≤ v) (hv : v ≤ 30) (hm : ∀ i, bt (T 25 pn) i = decide (u ≤ i ∧ i < v)) (h1 : kd ≠ 1 → u = v) (h26 : T 26 pn = if kd = 7 then (1 : Int32) <<< (T 22 pn &&& 31) else if kd = 1 then 2 else 1) (hkc : kc T β Γ t pn u v vl []) : nR T E β (n + 1) Γ t ((Int32.ofNat pn, a), (pn, pn + 1), (a, a + 1), (u, v)) := by
  have hcl : (Int32.ofNat pn).toNatClampNeg = pn := cl_of (by omega)
  refine ⟨gi_of (by omega) (by decide), by simp only; rw [hcl]; exact Nat.le_refl _, by simp only; rw [hcl]; omega, hp, ⟨Nat.le_refl _, Nat.lt_succ_self _⟩, ?_, ?_, ?_, huv, hv, ?_, vl, none, [], nC_1 hnc, nC_2 hnc, ?_, by simp, (fun y hy => by cases hy), ?_, ?_, ?_, ?_, ht⟩
  · simp only; rw [hcl, h20]; exact nC_0 hnc
  · simp only; rw [hcl]; exact nC_3 hnc
  · simp only; rw [hcl]; exact nC_4 hnc
  · simp only; rw [hcl]; exact hm
  · simp only; rw [hcl]; exact ⟨h23, rfl⟩
  · intro q q1 q2
    simp only at q1 q2 ⊢
    rw [hcl]
    exact Or.inl (by omega)
  · simp only
    rw [hcl, h20]
    exact h1
  · simp only
    rw [hcl]
    show T 26 pn = _
    rw [h20]
    exact h26
  · simp only; rw [hcl]; exact hkc
end G1
