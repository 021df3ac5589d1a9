theorem bt_msk {n q : Nat} (hn : n ≤ 26) : bt ((1 : Int32) <<< (Int32.ofNat n &&& 31) - 1) q = decide (q < n) := by
  have h : ∀ n : Fin 27, (1 : Int32) <<< (Int32.ofNat n.1 &&& 31) - 1 = Int32.ofNat (2 ^ n.1 - 1) := by decide
  rw [h ⟨n, by omega⟩, bt_ofN, Nat.testBit_two_pow_sub_one]
  by_cases hq : q < n
  · have : q < 32 := by omega
    simp [hq, this]
  · simp [hq]
theorem bt_omsk {ni no q : Nat} (hn : ni + no ≤ 26) : bt (((1 : Int32) <<< (Int32.ofNat no &&& 31) - 1) <<< (Int32.ofNat ni &&& 31)) q = decide (ni ≤ q ∧ q < ni + no) := by
  rw [bt_shl (by omega), bt_msk (by omega)]
  by_cases h1 : ni ≤ q
  · by_cases h2 : q < ni + no
    · have h3 : q < 32 := by omega
      have h4 : ¬ q < ni := by omega
      have h5 : q - ni < no := by omega
      simp [h1, h2, h3, h4, h5]
    · have h5 : ¬ q - ni < no := by omega
      simp [h2, h5]
  · have h4 : q < ni := by omega
    simp [h1, h4]
theorem w4_of {r : Nat → Int32} {th mi : Int32} : upd (upd r 3 th) 4 mi = zw4 r th mi (r 5) (r 6) := by
  funext j
  unfold zw4 upd
  by_cases h3 : j = 3
  · simp [h3]
  · by_cases h4 : j = 4
    · simp [h4]
    · by_cases h5 : j = 5
      · simp [h5]
      · by_cases h6 : j = 6
        · simp [h6]
        · simp [h3, h4, h5, h6]
section K3
variable {σ : gm_S} {k ni no : Nat} {li lo : Nat → Nat} {β : Nat → Int32} {E : ck_E} {Γ : Nat → Bool} {P a : Nat}
theorem wk_272 (hD : zPD σ.2 k ni no li lo) {v2 v3 v4 v5 : Int32} : ∀ (m i : Nat), i ≤ no → no - i < m →
    ((∀ i', i ≤ i' → i' < no → σ.2 38 (lo i') ≠ 0) → sp_Md_work_272 m (Int32.ofNat k) v2 v3 v4 v5 (Int32.ofNat i) σ = (match sp_Md_go (σ.2 16 k) v4 (upd (upd σ.1 40 0) 41 0, σ.2) with
      | none => none
      | some y10 => (if (y10.2.1 40) = 0 then (if y10.1 = 0 then sp_Md_work_368 2601 (Int32.ofNat k) v2 v3 v4 v5 y10.1 0 ((upd y10.2.1 42 (-3)), y10.2.2) else sp_Md_work_368 2601 (Int32.ofNat k) v2 v3 v4 v5 y10.1 0 ((upd y10.2.1 42 (y10.2.1 41)), y10.2.2)) else some ((y10.2.1 40), y10.2)))) ∧
    ((∃ i', i ≤ i' ∧ i' < no ∧ σ.2 38 (lo i') = 0) → sp_Md_work_272 m (Int32.ofNat k) v2 v3 v4 v5 (Int32.ofNat i) σ = some (1, σ)) := by
  obtain ⟨hk, h12, h14, hn, hli, hlo⟩ := hD
  intro m
  induction m with
  | zero => intro i _ h; omega
  | succ m ih =>
    intro i hi hm
    by_cases h : i = no
    · subst h
      refine ⟨fun _ => ?_, fun ⟨i', q1, q2, _⟩ => by omega⟩
      conv => lhs; unfold sp_Md_work_272
      rw [if_pos (gi_of (by omega : k < 7) (by decide)), cl_of (by omega), h14, if_pos ((le_N (by omega) (by omega)).mpr (Nat.le_refl _))]
      rfl
    · have hlt : i < no := by omega
      have hidx : (26 : Int32) * Int32.ofNat k + Int32.ofNat i = Int32.ofNat (26 * k + i) := by
        rw [show (26 : Int32) = Int32.ofNat 26 from rfl, ofN_mul, ofN_add]
      obtain ⟨l1, l2⟩ := hlo i hlt
      have hstep : sp_Md_work_272 (m + 1) (Int32.ofNat k) v2 v3 v4 v5 (Int32.ofNat i) σ = (if σ.2 38 (lo i) = 0 then some (1, σ) else sp_Md_work_272 m (Int32.ofNat k) v2 v3 v4 v5 (Int32.ofNat (i + 1)) σ) := by
        conv => lhs; unfold sp_Md_work_272
        rw [if_pos (gi_of (by omega : k < 7) (by decide)), cl_of (by omega), h14, if_neg (fun e => by have := (le_N (by omega) (by omega)).mp e; omega), hidx, if_pos (gi_of (by omega) (by decide)), cl_of (by omega), l1, if_pos (gi_of l2 (by decide)), cl_of (by omega), ofN_s]
      obtain ⟨a1, a2⟩ := ih (i + 1) (by omega) (by omega)
      refine ⟨fun hall => ?_, fun hex => ?_⟩
      · rw [hstep, if_neg (hall i (Nat.le_refl _) hlt)]
        exact a1 (fun i' q1 q2 => hall i' (by omega) q2)
      · rw [hstep]
        by_cases h0 : σ.2 38 (lo i) = 0
        · rw [if_pos h0]
        · rw [if_neg h0]
          obtain ⟨i', q1, q2, q3⟩ := hex
          refine a2 ⟨i', ?_, q2, q3⟩
          apply Nat.lt_of_le_of_ne q1
          intro e
          rw [← e] at q3
          exact h0 q3
theorem wk_368 {v2 v3 v4 v5 v6 : Int32} : ∀ (m i : Nat) (σ : gm_S), zPD σ.2 k ni no li lo → i ≤ no → no - i < m → ∃ o, sp_Md_work_368 m (Int32.ofNat k) v2 v3 v4 v5 v6 (Int32.ofNat i) σ = some (0, (upd σ.1 43 o, σ.2)) ∧ ∀ q, bt o q = (bt (σ.1 43) q || (decide (i ≤ q ∧ q < no) && decide (σ.2 38 (lo q) = 1))) := by
  intro m
  induction m with
  | zero => intro i σ _ _ h; omega
  | succ m ih =>
    intro i σ hD hi hm
    have hD' := hD
    obtain ⟨hk, h12, h14, hn, hli, hlo⟩ := hD
    conv =>
      arg 1
      intro o
      lhs
      lhs
      unfold sp_Md_work_368
    rw [if_pos (gi_of (by omega : k < 7) (by decide)), cl_of (by omega), h14]
    by_cases h : i = no
    · subst h
      refine ⟨σ.1 43, ?_, fun q => ?_⟩
      · rw [if_pos ((le_N (by omega) (by omega)).mpr (Nat.le_refl _)), upd_self]
      · have : ¬ (i ≤ q ∧ q < i) := by omega
        simp [this]
    · have hlt : i < no := by omega
      have hidx : (26 : Int32) * Int32.ofNat k + Int32.ofNat i = Int32.ofNat (26 * k + i) := by
        rw [show (26 : Int32) = Int32.ofNat 26 from rfl, ofN_mul, ofN_add]
      obtain ⟨l1, l2⟩ := hlo i hlt
      rw [if_neg (fun e => by have := (le_N (by omega) (by omega)).mp e; omega), hidx, if_pos (gi_of (by omega) (by decide)), cl_of (by omega), l1, if_pos (gi_of l2 (by decide)), cl_of (by omega), ofN_s]
      by_cases h1 : σ.2 38 (lo i) = 1
      · rw [if_pos h1]
        obtain ⟨o, a1, a2⟩ := ih (i + 1) (upd σ.1 43 (σ.1 43 ||| (1 : Int32) <<< (Int32.ofNat i &&& 31)), σ.2) hD' (by omega) (by omega)
        refine ⟨o, ?_, fun q => ?_⟩
        · rw [a1, upd_upd]
        · rw [a2 q]
          simp only [upd_eq]
          rw [bt_or, bt_p2 (by omega)]
          by_cases hq : q = i
          · subst hq
            have : ¬ (q + 1 ≤ q ∧ q < no) := by omega
            simp [hlt, h1]
          · have : (i + 1 ≤ q ∧ q < no) ↔ (i ≤ q ∧ q < no) := by omega
            simp only [this, hq, decide_false, Bool.or_false]
      · rw [if_neg h1]
        obtain ⟨o, a1, a2⟩ := ih (i + 1) (upd σ.1 43 (σ.1 43 ||| 0), σ.2) hD' (by omega) (by omega)
        refine ⟨o, ?_, fun q => ?_⟩
        · rw [a1, upd_upd]
        · rw [a2 q]
          simp only [upd_eq]
          rw [bt_or, bt_0, Bool.or_false]
          by_cases hq : q = i
          · subst hq
            have : ¬ (q + 1 ≤ q ∧ q < no) := by omega
            simp [h1]
          · have : (i + 1 ≤ q ∧ q < no) ↔ (i ≤ q ∧ q < no) := by omega
            simp only [this]
theorem chn_cg {T T' : mw_A} (h24 : T' 24 = T 24) (h25 : T' 25 = T 25) : ∀ (l : List (Int32 × Nat)) (q : Int32) (c : Option Nat), chn T E l q c → chn T' E l q c := by
  intro l
  induction l with
  | nil => intro q c hc; exact hc
  | cons y ys ihl =>
    intro q c hc
    obtain ⟨q1, q2, q3, q4, c', q5, q6⟩ := hc
    exact ⟨q1, q2, q3, by rw [h25]; exact q4, c', q5, by rw [h24]; exact ihl _ _ q6⟩
theorem nR_cg {T T' : mw_A} (h : ∀ j, 20 ≤ j → j ≤ 26 → T' j = T j) : ∀ (n : Nat) (Γ : Nat → Bool) (t : Nat) (x : kd_R), nR T E β n Γ t x → nR T' E β n Γ t x := by
  intro n
  induction n with
  | zero => intro Γ t x hx; exact hx
  | succ n ih =>
    intro Γ t x hx
    have e20 := h 20 (by decide) (by decide)
    have e21 := h 21 (by decide) (by decide)
    have e22 := h 22 (by decide) (by decide)
    have e23 := h 23 (by decide) (by decide)
    have e24 := h 24 (by decide) (by decide)
    have e25 := h 25 (by decide) (by decide)
    have e26 := h 26 (by decide) (by decide)
    unfold nR at hx ⊢
    unfold zoN kc lt_ok gN ztN rgd at hx ⊢
    simp only [e20, e21, e22, e23, e25, e26] at hx ⊢
    obtain ⟨h1, h2, h3, h4, h5, h6, h7, h8, h9, h10, h11, vl, c, kids, k1, k2, k3, k4, k5, k6⟩ := hx
    exact ⟨h1, h2, h3, h4, h5, h6, h7, h8, h9, h10, h11, vl, c, kids, k1, k2, chn_cg e24 e25 _ _ _ k3, k4, fun y hy => ⟨(k5 y hy).1, (k5 y hy).2.1, (k5 y hy).2.2.1, (k5 y hy).2.2.2.1, (k5 y hy).2.2.2.2.1, ih _ _ _ (k5 y hy).2.2.2.2.2⟩, k6⟩
end K3
