theorem ofN_add {a b : Nat} : Int32.ofNat a + Int32.ofNat b = Int32.ofNat (a + b) := by
  apply Int32.toBitVec_inj.mp
  show BitVec.ofNat 32 a + BitVec.ofNat 32 b = BitVec.ofNat 32 (a + b)
  exact (BitVec.ofNat_add a b).symm
theorem ofN_mul {a b : Nat} : Int32.ofNat a * Int32.ofNat b = Int32.ofNat (a * b) := by
  apply Int32.toBitVec_inj.mp
  show BitVec.ofNat 32 a * BitVec.ofNat 32 b = BitVec.ofNat 32 (a * b)
  exact (BitVec.ofNat_mul a b).symm
theorem ofN_s {a : Nat} : Int32.ofNat a + 1 = Int32.ofNat (a + 1) := ofN_add
theorem le_N {a b : Nat} (ha : a < 2147483648) (hb : b < 2147483648) : Int32.ofNat a ≤ Int32.ofNat b ↔ a ≤ b := by
  rw [Int32.le_iff_toInt_le, Int32.toInt_ofNat_of_lt ha, Int32.toInt_ofNat_of_lt hb]
  omega
theorem lt_N {a b : Nat} (ha : a < 2147483648) (hb : b < 2147483648) : Int32.ofNat a < Int32.ofNat b ↔ a < b := by
  rw [Int32.lt_iff_toInt_lt, Int32.toInt_ofNat_of_lt ha, Int32.toInt_ofNat_of_lt hb]
  omega
theorem eq_N {a b : Nat} (ha : a < 2147483648) (hb : b < 2147483648) : Int32.ofNat a = Int32.ofNat b ↔ a = b := by
  rw [← Int32.toInt_inj, Int32.toInt_ofNat_of_lt ha, Int32.toInt_ofNat_of_lt hb]
  omega
theorem shr_bit {v : Int32} {i : Nat} (hi : i < 32) : ((v >>> (Int32.ofNat i &&& 31)) &&& 1 = 1) ↔ bt v i = true := by
  have h1 : bt (v >>> (Int32.ofNat i &&& 31)) 0 = bt v i := by
    show (v.toBitVec.sshiftRight' ((Int32.ofNat i &&& 31).toBitVec.smod 32#32)).getLsbD 0 = _
    rw [BitVec.sshiftRight_eq', BitVec.getLsbD_sshiftRight, sh_amt hi]
    simp [hi]
    rfl
  constructor
  · intro h
    have h2 : bt ((v >>> (Int32.ofNat i &&& 31)) &&& 1) 0 = bt 1 0 := by rw [h]
    rw [bt_and, bt_1, h1] at h2
    simpa using h2
  · intro h
    apply bt_ext
    intro j hj
    rw [bt_and, bt_1]
    by_cases h0 : j = 0
    · subst h0
      rw [h1, h]
      simp
    · simp [h0]
def stK (σ : gm_S) (K : Nat → Int32) : gm_S := (σ.1, gm_up σ.2 38 K)
theorem stK_n {σ : gm_S} {K : Nat → Int32} {j : Nat} (h : j ≠ 38) : (stK σ K).2 j = σ.2 j := if_neg h
theorem stK_38 {σ : gm_S} {K : Nat → Int32} : (stK σ K).2 38 = K := rfl
theorem stK_u {σ : gm_S} {K K' : Nat → Int32} : ((stK σ K).1, gm_up (stK σ K).2 38 K') = stK σ K' := by
  unfold stK
  have : gm_up (gm_up σ.2 38 K) 38 K' = gm_up σ.2 38 K' := by
    funext j
    unfold gm_up
    by_cases h : j = 38 <;> simp [h]
  rw [this]
theorem stK_id {σ : gm_S} : stK σ (σ.2 38) = σ := by
  unfold stK
  have : gm_up σ.2 38 (σ.2 38) = σ.2 := by
    funext j
    unfold gm_up
    by_cases h : j = 38 <;> simp [h]
  rw [this]
def zPD (A : Nat → Nat → Int32) (k ni no : Nat) (li lo : Nat → Nat) : Prop := k < 6 ∧ A 12 k = Int32.ofNat ni ∧ A 14 k = Int32.ofNat no ∧ ni + no ≤ 26 ∧ (∀ i, i < ni → A 13 (26 * k + i) = Int32.ofNat (li i) ∧ li i < 26) ∧ (∀ i, i < no → A 15 (26 * k + i) = Int32.ofNat (lo i) ∧ lo i < 26)
def zPB (β : Nat → Int32) (ni no : Nat) (li lo : Nat → Nat) : Prop := (∀ i, i < ni → β (li i) = (1 : Int32) <<< (Int32.ofNat i &&& 31)) ∧ (∀ i, i < no → β (lo i) = (1 : Int32) <<< (Int32.ofNat (ni + i) &&& 31))
section K1
variable {σ : gm_S} {k ni no : Nat} {li lo : Nat → Nat} {β : Nat → Int32}
theorem PB_o (h : zPB β ni no li lo) (hn : ni + no ≤ 26) {i i' : Nat} (hi : i < no) (hi' : i' < no) (e : lo i = lo i') : i = i' := by
  have h1 := h.2 i hi
  have h2 := h.2 i' hi'
  rw [e, h2] at h1
  have h3 : bt ((1 : Int32) <<< (Int32.ofNat (ni + i) &&& 31)) (ni + i) = true := by rw [bt_p2 (by omega)]; simp
  rw [← h1, bt_p2 (by omega)] at h3
  simp at h3
  omega
theorem PB_i (h : zPB β ni no li lo) (hn : ni + no ≤ 26) {i i' : Nat} (hi : i < ni) (hi' : i' < ni) (e : li i = li i') : i = i' := by
  have h1 := h.1 i hi
  have h2 := h.1 i' hi'
  rw [e, h2] at h1
  have h3 : bt ((1 : Int32) <<< (Int32.ofNat i &&& 31)) i = true := by rw [bt_p2 (by omega)]; simp
  rw [← h1, bt_p2 (by omega)] at h3
  simp at h3
  omega
theorem PB_io (h : zPB β ni no li lo) (hn : ni + no ≤ 26) {i i' : Nat} (hi : i < ni) (hi' : i' < no) : li i ≠ lo i' := by
  intro e
  have h1 := h.1 i hi
  have h2 := h.2 i' hi'
  rw [e, h2] at h1
  have h3 : bt ((1 : Int32) <<< (Int32.ofNat i &&& 31)) i = true := by rw [bt_p2 (by omega)]; simp
  rw [← h1, bt_p2 (by omega)] at h3
  simp at h3
  omega
theorem nz_p2 {m : Int32} {j b : Nat} (hb : b < 32) (h : β j = (1 : Int32) <<< (Int32.ofNat b &&& 31)) : nz β m j = bt m b := by
  rw [Bool.eq_iff_iff, nz_iff]
  constructor
  · rintro ⟨i, h1, h2⟩
    rw [h, bt_p2 hb] at h2
    simp at h2
    rw [← h2]
    exact h1
  · intro h1
    exact ⟨b, h1, by rw [h, bt_p2 hb]; simp⟩
theorem wk_48 {v1 v2 v3 v4 : Int32} : ∀ (m i : Nat) (K : Nat → Int32), i ≤ 26 → 26 - i < m → ∃ K', sp_Md_work_48 m v1 v2 v3 v4 (Int32.ofNat i) (stK σ K) = sp_Md_work_72 2601 v1 v2 v3 v4 0 (stK σ K') ∧ (∀ j, i ≤ j → j < 26 → K' j = 0) ∧ (∀ j, j < i → K' j = K j) := by
  intro m
  induction m with
  | zero => intro i K _ h; omega
  | succ m ih =>
    intro i K hi hm
    unfold sp_Md_work_48
    by_cases h : i = 26
    · subst h
      rw [if_pos (by decide)]
      exact ⟨K, rfl, fun j h1 h2 => by omega, fun _ _ => rfl⟩
    · have hlt : i < 26 := by omega
      rw [if_neg (fun e => by have := (le_N (by decide) (by omega)).mp (show Int32.ofNat 26 ≤ Int32.ofNat i from e); omega), if_pos (gi_of hlt (by decide)), stK_38, stK_u, ofN_s, cl_of (by omega)]
      obtain ⟨K', h1, h2, h3⟩ := ih (i + 1) (upd K i 0) (by omega) (by omega)
      refine ⟨K', h1, fun j hj hj' => ?_, fun j hj => ?_⟩
      · by_cases e : j = i
        · rw [e, h3 i (by omega), upd_eq]
        · exact h2 j (by omega) hj'
      · rw [h3 j (by omega), upd_ne (by omega)]
theorem wk_72 (hD : zPD σ.2 k ni no li lo) (hB : zPB β ni no li lo) {v2 v3 v4 : Int32} : ∀ (m i : Nat) (K : Nat → Int32), i ≤ ni → ni - i < m → ∃ K', sp_Md_work_72 m (Int32.ofNat k) v2 v3 v4 (Int32.ofNat i) (stK σ K) = sp_Md_work_124 2601 (Int32.ofNat k) v2 v3 v4 1 (stK σ K') ∧ (∀ i', i ≤ i' → i' < ni → K' (li i') = if bt v3 i' = true then 1 else 2) ∧ (∀ j, (∀ i', i ≤ i' → i' < ni → li i' ≠ j) → K' j = K j) := by
  obtain ⟨hk, h12, h14, hn, hli, hlo⟩ := hD
  intro m
  induction m with
  | zero => intro i K _ h; omega
  | succ m ih =>
    intro i K hi hm
    unfold sp_Md_work_72
    rw [if_pos (gi_of (by omega : k < 7) (by decide)), cl_of (by omega), stK_n (by decide), h12]
    by_cases h : i = ni
    · subst h
      rw [if_pos ((le_N (by omega) (by omega)).mpr (Nat.le_refl _))]
      exact ⟨K, rfl, fun j h1 h2 => by omega, fun _ _ => rfl⟩
    · have hlt : i < ni := by omega
      have hidx : (26 : Int32) * Int32.ofNat k + Int32.ofNat i = Int32.ofNat (26 * k + i) := by
        rw [show (26 : Int32) = Int32.ofNat 26 from rfl, ofN_mul, ofN_add]
      obtain ⟨l1, l2⟩ := hli i hlt
      rw [if_neg (fun e => by have := (le_N (by omega) (by omega)).mp e; omega), hidx, if_pos (gi_of (by omega) (by decide)), cl_of (by omega), stK_n (by decide), l1, if_pos (gi_of l2 (by decide)), cl_of (by omega), stK_38, stK_u, stK_u, ofN_s]
      have step : ∀ w : Int32, (∃ K', sp_Md_work_72 m (Int32.ofNat k) v2 v3 v4 (Int32.ofNat (i + 1)) (stK σ (upd K (li i) w)) = sp_Md_work_124 2601 (Int32.ofNat k) v2 v3 v4 1 (stK σ K') ∧ (∀ i', i ≤ i' → i' < ni → K' (li i') = if i' = i then w else if bt v3 i' = true then 1 else 2) ∧ (∀ j, (∀ i', i ≤ i' → i' < ni → li i' ≠ j) → K' j = K j)) := by
        intro w
        obtain ⟨K', h1, h2, h3⟩ := ih (i + 1) (upd K (li i) w) (by omega) (by omega)
        refine ⟨K', h1, fun i' hi1 hi2 => ?_, fun j hj => ?_⟩
        · by_cases e : i' = i
          · rw [if_pos e, e, h3 (li i) (fun i'' q1 q2 q3 => by have := PB_i hB hn q2 hlt q3; omega), upd_eq]
          · rw [if_neg e]
            exact h2 i' (by omega) hi2
        · rw [h3 j (fun i' q1 q2 => hj i' (by omega) q2), upd_ne (fun e => hj i (Nat.le_refl _) hlt e.symm)]
      by_cases hb : bt v3 i = true
      · rw [if_pos ((shr_bit (by omega)).mpr hb)]
        obtain ⟨K', h1, h2, h3⟩ := step 1
        refine ⟨K', h1, fun i' q1 q2 => ?_, h3⟩
        rw [h2 i' q1 q2]
        by_cases e : i' = i
        · rw [if_pos e, e, if_pos hb]
        · rw [if_neg e]
      · rw [if_neg (fun e => hb ((shr_bit (by omega)).mp e)), if_pos (gi_of l2 (by decide))]
        obtain ⟨K', h1, h2, h3⟩ := step 2
        refine ⟨K', h1, fun i' q1 q2 => ?_, h3⟩
        rw [h2 i' q1 q2]
        by_cases e : i' = i
        · rw [if_pos e, e, if_neg hb]
        · rw [if_neg e]
def vl (xm xc : Int64) (j : Nat) : Int32 := if sg xm j = true then 1 else if sg xc j = true then 0 else 2
theorem wk_164 (hD : zPD σ.2 k ni no li lo) (hB : zPB β ni no li lo) {kk : Int32 → Int32 → Int32 → Int32 → Int32 → gm_S → Option (Int32 × gm_S)} {v2 v3 v4 : Int32} {xm xc : Int64} : ∀ (m i : Nat) (K : Nat → Int32) (v5 : Int32), (v5 = 0 ∨ v5 = 1) → i ≤ no → no - i < m → ∃ K' v5', sp_Md_work_164 kk m (Int32.ofNat k) v2 v3 v4 v5 xm xc (Int32.ofNat i) (stK σ K) = kk (Int32.ofNat k) v2 v3 v4 v5' (stK σ K') ∧ (∀ i', i ≤ i' → i' < no → K' (lo i') = if K (lo i') = 0 then vl xm xc (lo i') else K (lo i')) ∧ (∀ j, (∀ i', i ≤ i' → i' < no → lo i' ≠ j) → K' j = K j) ∧ (v5' = 0 ∨ v5' = 1) ∧ (v5' = 0 ↔ v5 = 0 ∧ ∀ i', i ≤ i' → i' < no → K (lo i') = 0 → K' (lo i') = 0) := by
  have hD' := hD
  obtain ⟨hk, h12, h14, hn, hli, hlo⟩ := hD
  intro m
  induction m with
  | zero => intro i K v5 _ _ h; omega
  | succ m ih =>
    intro i K v5 hv5 hi hm
    unfold sp_Md_work_164
    rw [if_pos (gi_of (by omega : k < 7) (by decide)), cl_of (by omega), stK_n (by decide), h14]
    by_cases h : i = no
    · subst h
      rw [if_pos ((le_N (by omega) (by omega)).mpr (Nat.le_refl _))]
      exact ⟨K, v5, rfl, fun j h1 h2 => by omega, fun _ _ => rfl, hv5, ⟨fun e => ⟨e, fun i' q1 q2 => by omega⟩, fun e => e.1⟩⟩
    · have hlt : i < no := by omega
      have hidx : (26 : Int32) * Int32.ofNat k + Int32.ofNat i = Int32.ofNat (26 * k + i) := by
        rw [show (26 : Int32) = Int32.ofNat 26 from rfl, ofN_mul, ofN_add]
      obtain ⟨l1, l2⟩ := hlo i hlt
      rw [if_neg (fun e => by have := (le_N (by omega) (by omega)).mp e; omega), hidx, if_pos (gi_of (by omega) (by decide)), cl_of (by omega), stK_n (by decide), l1, if_pos (gi_of l2 (by decide)), cl_of (by omega), stK_38, stK_u, stK_u, stK_u, ofN_s, hasS_eq l2, hasS_eq l2]
      simp only [upd_eq]
      have step : ∀ (w v : Int32), (v = 0 ∨ v = 1) → K (lo i) = 0 → w = vl xm xc (lo i) → (v = 0 ↔ v5 = 0 ∧ w = 0) → (∃ K' v5', sp_Md_work_164 kk m (Int32.ofNat k) v2 v3 v4 v xm xc (Int32.ofNat (i + 1)) (stK σ (upd K (lo i) w)) = kk (Int32.ofNat k) v2 v3 v4 v5' (stK σ K') ∧ (∀ i', i ≤ i' → i' < no → K' (lo i') = if K (lo i') = 0 then vl xm xc (lo i') else K (lo i')) ∧ (∀ j, (∀ i', i ≤ i' → i' < no → lo i' ≠ j) → K' j = K j) ∧ (v5' = 0 ∨ v5' = 1) ∧ (v5' = 0 ↔ v5 = 0 ∧ ∀ i', i ≤ i' → i' < no → K (lo i') = 0 → K' (lo i') = 0)) := by
        intro w v hv hK0 hw hvv
        obtain ⟨K', v5', h1, h2, h3, h4, h5⟩ := ih (i + 1) (upd K (lo i) w) v hv (by omega) (by omega)
        have hKi : K' (lo i) = w := by rw [h3 (lo i) (fun i'' q1 q2 q3 => by have := PB_o hB hn q2 hlt q3; omega), upd_eq]
        have hne : ∀ i', i + 1 ≤ i' → i' < no → upd K (lo i) w (lo i') = K (lo i') := fun i' q1 q2 => upd_ne (fun e => by have := PB_o hB hn q2 hlt e; omega)
        refine ⟨K', v5', h1, fun i' q1 q2 => ?_, fun j hj => ?_, h4, ?_⟩
        · by_cases e : i' = i
          · rw [e, if_pos hK0, hKi, hw]
          · rw [h2 i' (by omega) q2, hne i' (by omega) q2]
        · rw [h3 j (fun i' q1 q2 => hj i' (by omega) q2), upd_ne (fun e => hj i (Nat.le_refl _) hlt e.symm)]
        · rw [h5, hvv]
          constructor
          · rintro ⟨⟨a1, a2⟩, a3⟩
            refine ⟨a1, fun i' q1 q2 q3 => ?_⟩
            by_cases e : i' = i
            · rw [e, hKi, a2]
            · exact a3 i' (by omega) q2 (by rw [hne i' (by omega) q2]; exact q3)
          · rintro ⟨a1, a2⟩
            refine ⟨⟨a1, ?_⟩, fun i' q1 q2 q3 => a2 i' (by omega) q2 (by rw [← hne i' q1 q2]; exact q3)⟩
            have := a2 i (Nat.le_refl _) hlt hK0
            rw [hKi] at this
            exact this
      by_cases hK0 : K (lo i) = 0
      · rw [if_pos hK0]
        cases hm : sg xm (lo i) with
        | true =>
          have hw : (1 : Int32) = vl xm xc (lo i) := by unfold vl; rw [hm]; rfl
          simp only [if_true]
          rw [if_neg (by decide)]
          rcases hv5 with hv | hv
          · rw [if_pos hv, if_neg (by decide)]
            exact step 1 1 (Or.inr rfl) hK0 hw ⟨fun e => absurd e (by decide), fun e => absurd e.2 (by decide)⟩
          · rw [if_neg (by rw [hv]; decide)]
            exact step 1 1 (Or.inr rfl) hK0 hw ⟨fun e => absurd e (by decide), fun e => absurd e.2 (by decide)⟩
        | false =>
          simp only [Bool.false_eq_true, if_false, if_true]
          cases hc : sg xc (lo i) with
          | true =>
            have hw : (0 : Int32) = vl xm xc (lo i) := by unfold vl; rw [hm, hc]; rfl
            simp only [if_true]
            rw [if_neg (by decide)]
            rcases hv5 with hv | hv
            · rw [if_pos hv]
              exact step 0 0 (Or.inl rfl) hK0 hw ⟨fun _ => ⟨hv, rfl⟩, fun _ => rfl⟩
            · rw [if_neg (by rw [hv]; decide)]
              exact step 0 1 (Or.inr rfl) hK0 hw ⟨fun e => absurd e (by decide), fun e => by rw [hv] at e; exact absurd e.1 (by decide)⟩
          | false =>
            have hw : (2 : Int32) = vl xm xc (lo i) := by unfold vl; rw [hm, hc]; rfl
            simp only [Bool.false_eq_true, if_false, if_true]
            rcases hv5 with hv | hv
            · rw [if_pos hv, if_neg (by decide)]
              exact step 2 1 (Or.inr rfl) hK0 hw ⟨fun e => absurd e (by decide), fun e => absurd e.2 (by decide)⟩
            · rw [if_neg (by rw [hv]; decide)]
              exact step 2 1 (Or.inr rfl) hK0 hw ⟨fun e => absurd e (by decide), fun e => absurd e.2 (by decide)⟩
      · rw [if_neg hK0]
        obtain ⟨K', v5', h1, h2, h3, h4, h5⟩ := ih (i + 1) K v5 hv5 (by omega) (by omega)
        refine ⟨K', v5', h1, fun i' q1 q2 => ?_, fun j hj => h3 j (fun i' q1 q2 => hj i' (by omega) q2), h4, ?_⟩
        · by_cases e : i' = i
          · rw [e, if_neg hK0, h3 (lo i) (fun i'' q1 q2 q3 => by have := PB_o hB hn q2 hlt q3; omega)]
          · exact h2 i' (by omega) q2
        · rw [h5]
          constructor
          · rintro ⟨a1, a2⟩
            refine ⟨a1, fun i' q1 q2 q3 => ?_⟩
            by_cases e : i' = i
            · rw [e] at q3; exact absurd q3 hK0
            · exact a2 i' (by omega) q2 q3
          · rintro ⟨a1, a2⟩
            exact ⟨a1, fun i' q1 q2 q3 => a2 i' (by omega) q2 q3⟩
end K1
