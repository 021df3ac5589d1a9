theorem ofN_sub {a b : Nat} (h : b ≤ a) : Int32.ofNat a - Int32.ofNat b = Int32.ofNat (a - b) := by
  have : Int32.ofNat a = Int32.ofNat (a - b) + Int32.ofNat b := by rw [ofN_add]; congr 1; omega
  rw [this, Int32.add_sub_cancel]
section B8
variable {sz at_ dp lc tr pc sc : Nat} {c : ck_S} {n : Nat} {f : ck_S → Option (Option Nat × ck_S)}
theorem leaf_cx {z : gx_C} (h : CW sz at_ dp lc tr pc sc c) (hz : ∃ kd v f w o, z = nC kd v f w o none) : CX 1 0 sz at_ dp lc tr pc sc c c.2.2.2.2.1 (cM c z) := by
  obtain ⟨kd, v, f, w, o, rfl⟩ := hz
  refine ⟨at_, pc, sc, CV_M h, by omega, ?_, Nat.le_refl _, ?_, kd, v, f, w, o, eset_eq⟩
  · show c.2.2.2.2.1 + 1 ≤ _
    omega
  · show c.2.2.2.2.1 < c.2.2.2.2.1 + 1
    omega
theorem nothing_cx (h : CW sz at_ dp lc tr pc sc c) : ∃ a c', sp_Rd_nothing c = some (some a, c') ∧ CX 1 0 sz at_ dp lc tr pc sc c a c' := ⟨_, _, nothing_eq, leaf_cx h ⟨_, _, _, _, _, rfl⟩⟩
theorem pause_cx {start : Nat} (h : CW sz at_ dp lc tr pc sc c) (hp : pc + 1 ≤ at_) (hs : start ≤ 500) : ∃ a c', sp_Rd_newPause (Int32.ofNat start) c = some (some a, c') ∧ CX 1 1 sz at_ dp lc tr pc sc c a c' := by
  have hz := CW_Z h hp hs
  have hh : (cZ pc start c).2.2 = c.2.2 := cZ_h
  refine ⟨_, _, pause_eq h, at_, pc + 1, sc, CV_tr hz (CV_M hz.1), by omega, ?_, Nat.le_refl _, ?_, 1, pV pc, none, pV pc, 2, ?_⟩
  · show (cZ pc start c).2.2.2.2.1 + 1 ≤ _
    rw [hh]
    omega
  · show c.2.2.2.2.1 < (cZ pc start c).2.2.2.2.1 + 1
    rw [hh]
    omega
  · show eset (cZ pc start c).2.2.2.1 (cZ pc start c).2.2.2.2.1 _ c.2.2.2.2.1 = _
    rw [hh]
    exact eset_eq
theorem watch_cx {start : Nat} {v1 : Int32} (h : CW sz at_ dp lc tr pc sc c) (hp : pc + 1 ≤ at_) (hs : start ≤ 500) : ∃ a c', sp_Rd_newWatch v1 (Int32.ofNat start) c = some (some a, c') ∧ CX 6 1 sz at_ dp lc tr pc sc c a c' := by
  have hz := CW_Z h hp hs
  have hh : (cZ pc start c).2.2 = c.2.2 := cZ_h
  have hcv := CV_hp (k := 6) (E' := wE c.2.2.2.1 c.2.2.2.2.1 (pV pc) v1) hz (fun q hq => by
    rw [hh]
    unfold wE
    rw [if_neg (by omega), if_neg (by omega), if_neg (by omega), if_neg (by omega), if_neg (by omega), if_neg (by omega)])
  rw [hh] at hcv
  refine ⟨_, _, watch_eq h, at_, pc + 1, sc, hcv, by omega, ?_, by omega, ?_, 4, 0, some (c.2.2.2.2.1 + 5), pV pc, 2, ?_⟩
  · show c.2.2.2.2.1 + 6 ≤ _
    omega
  · show c.2.2.2.2.1 + 4 < c.2.2.2.2.1 + 6
    omega
  · show wE c.2.2.2.1 c.2.2.2.2.1 (pV pc) v1 (c.2.2.2.2.1 + 4) = _
    unfold wE
    rw [if_neg (by omega), if_neg (by omega), if_neg (by omega), if_neg (by omega), if_pos rfl]
theorem sustain_cx {start : Nat} {v1 : Int32} (h : CW sz at_ dp lc tr pc sc c) (hp : pc + 1 ≤ at_) (hs : start ≤ 500) : ∃ a c', sp_Rd_newSustain v1 (Int32.ofNat start) c = some (some a, c') ∧ CX 4 1 sz at_ dp lc tr pc sc c a c' := by
  have hz := CW_Z h hp hs
  have hh : (cZ pc start c).2.2 = c.2.2 := cZ_h
  have hcv := CV_hp (k := 4) (E' := sE c.2.2.2.1 c.2.2.2.2.1 (pV pc) v1) hz (fun q hq => by
    rw [hh]
    unfold sE
    rw [if_neg (by omega), if_neg (by omega), if_neg (by omega), if_neg (by omega)])
  rw [hh] at hcv
  refine ⟨_, _, sustain_eq h, at_, pc + 1, sc, hcv, by omega, ?_, by omega, ?_, 4, 0, some c.2.2.2.2.1, pV pc, 2, ?_⟩
  · show c.2.2.2.2.1 + 4 ≤ _
    omega
  · show c.2.2.2.2.1 + 3 < c.2.2.2.2.1 + 4
    omega
  · show sE c.2.2.2.1 c.2.2.2.2.1 (pV pc) v1 (c.2.2.2.2.1 + 3) = _
    unfold sE
    rw [if_neg (by omega), if_neg (by omega), if_neg (by omega), if_pos rfl]
theorem exit_29 {w : Nat} {v2 : Int32} (h14 : c.1 14 = Int32.ofNat tr) (htr : tr ≤ 13) : ∀ (i m : Nat), i ≤ tr → i < m → (∃ j, j < i ∧ c.2.1 4 j = v2 ∧ (∀ j', j < j' → j' < i → c.2.1 4 j' ≠ v2) ∧ sp_Rd_readExit_29 m (Int32.ofNat w) v2 (Int32.ofNat i + (-1)) c = some (some c.2.2.2.2.1, cM c (nC 7 (Int32.ofNat (tr + 1 - j)) none 0 ((1 : Int32) <<< (Int32.ofNat (tr + 1 - j) &&& 31)) none))) ∨ ((∀ j, j < i → c.2.1 4 j ≠ v2) ∧ sp_Rd_readExit_29 m (Int32.ofNat w) v2 (Int32.ofNat i + (-1)) c = some (some c.2.2.2.2.1, cM (cN 2 w c) (nC 7 2 none 0 4 none))) := by
  intro i
  induction i with
  | zero =>
    intro m _ hm
    obtain ⟨m, rfl⟩ : ∃ j, m = j + 1 := ⟨m - 1, by omega⟩
    refine Or.inr ⟨fun j hj => by omega, ?_⟩
    unfold sp_Rd_readExit_29
    rw [if_pos (by decide)]
    have e2 : sp_Rd_note 2 (Int32.ofNat w) c = some (cN 2 w c) := nt_eq (k := 2) (by decide)
    rw [e2]
    simp only
    rw [exit_eq]
    rfl
  | succ i ih =>
    intro m hi hm
    obtain ⟨m, rfl⟩ : ∃ j, m = j + 1 := ⟨m - 1, by omega⟩
    have e0 : Int32.ofNat (i + 1) + (-1) = Int32.ofNat i := sb1 (by omega)
    rw [e0]
    have hstep : sp_Rd_readExit_29 (m + 1) (Int32.ofNat w) v2 (Int32.ofNat i) c = (if c.2.1 4 i = v2 then some (some c.2.2.2.2.1, cM c (nC 7 (Int32.ofNat (tr + 1 - i)) none 0 ((1 : Int32) <<< (Int32.ofNat (tr + 1 - i) &&& 31)) none)) else sp_Rd_readExit_29 m (Int32.ofNat w) v2 (Int32.ofNat i + (-1)) c) := by
      conv => lhs; unfold sp_Rd_readExit_29
      rw [if_neg (show ¬ (Int32.ofNat i < 0) from fun e => by have := (lt_N (b := 0) (by omega) (by decide)).mp e; omega), if_pos (gi_of (by omega : i < 13) (by decide)), cl_of (by omega), h14]
      have ek : ((2 : Int32) + Int32.ofNat tr - 1) - Int32.ofNat i = Int32.ofNat (tr + 1 - i) := by
        rw [show (2 : Int32) = Int32.ofNat 2 from rfl, ofN_add, sb2 (by omega), ofN_sub (by omega)]
        congr 1
        omega
      rw [ek, exit_eq]
    rw [hstep]
    by_cases hv : c.2.1 4 i = v2
    · rw [if_pos hv]
      exact Or.inl ⟨i, by omega, hv, fun j' a b => by omega, rfl⟩
    · rw [if_neg hv]
      rcases ih m (by omega) (by omega) with ⟨j, j1, j2, j3, j4⟩ | ⟨j1, j2⟩
      · refine Or.inl ⟨j, by omega, j2, fun j' a b => ?_, j4⟩
        by_cases hj : j' = i
        · rw [hj]; exact hv
        · exact j3 j' a (by omega)
      · refine Or.inr ⟨fun j hj => ?_, j2⟩
        by_cases hji : j = i
        · rw [hji]; exact hv
        · exact j1 j (by omega)
theorem hR22 {z : ck_S} : (cR z).2.2 = z.2.2 := by
  unfold cR
  by_cases hb' : z.2.1 2 1 = 501
  · rw [if_pos hb']
  · rw [if_neg hb']
theorem tb_cv {v1 v2 : Int32} (h : CW sz at_ dp lc tr pc sc c) (hv : q_in (-1) v1 v2 = 0) : ∃ s c1 at', sp_Rd_takeBetween v1 v2 c = some (s, c1) ∧ CV sz at_ dp lc tr pc sc c c1 at' pc sc ∧ at' ≤ at_ + 1 ∧ c1.2.2 = c.2.2 := by
  rw [tb_eq h]
  by_cases hin : q_in (pk sz at_ c) v1 v2 = 0
  · rw [if_pos hin]
    exact ⟨_, _, at_, rfl, CV_R h, by omega, hR22⟩
  · rw [if_neg hin]
    rcases pk_r h with h1 | ⟨h1, h2, _⟩
    · rw [h1] at hin
      exact absurd hv hin
    · exact ⟨_, _, at_ + 1, rfl, CV_P h h2 h1, Nat.le_refl _, rfl⟩
theorem exit_cx (h : CW sz at_ dp lc tr pc sc c) (htr : tr ≤ 13) : ∃ a c', sp_Rd_readExit c = some (some a, c') ∧ CX 1 0 sz at_ dp lc tr pc sc c a c' := by
  have hsz : sz ≤ 500 := h.2.1
  have hat : at_ ≤ sz := h.2.2.2.1
  have h8 : c.1 8 = Int32.ofNat at_ := h.2.2.1
  obtain ⟨s, c1, at', a1, a2, a3, a4⟩ := tb_cv (v1 := 65) (v2 := 90) h (by decide)
  unfold sp_Rd_readExit
  rw [a1]
  simp only
  have h14 : c1.1 14 = Int32.ofNat tr := a2.1.2.2.2.2.2.2.2.1
  have hmin : q_min (c1.1 14) 13 - 1 = Int32.ofNat tr + (-1) := by
    rw [h14]
    unfold q_min
    rw [if_neg (show ¬ ((13 : Int32) < Int32.ofNat tr) from fun e => by have := (lt_N (a := 13) (by decide) (by omega)).mp e; omega), Int32.sub_eq_add_neg]
  rw [hmin, h8]
  have hnx : c1.2.2.2.2.1 = c.2.2.2.2.1 := by rw [a4]
  rcases exit_29 (w := at_) (v2 := s) h14 htr tr 2601 (Nat.le_refl _) (by omega) with ⟨j, _, _, _, e⟩ | ⟨_, e⟩
  · have := CX_tr a2 (j' := 0) (k' := 0) (by have := a2.2.1; omega) (by rw [hnx]; omega) (leaf_cx a2.1 (z := (nC 7 (Int32.ofNat (tr + 1 - j)) none 0 ((1 : Int32) <<< (Int32.ofNat (tr + 1 - j) &&& 31)) none)) ⟨_, _, _, _, _, rfl⟩)
    exact ⟨_, _, e, this⟩
  · have hcn := CV_N (k := 2) (w := at_) (by decide) (by decide) (by omega) a2.1
    have := CX_tr (CV_tr a2 hcn) (j' := 0) (k' := 0) (by have := a2.2.1; omega) (by show c1.2.2.2.2.1 ≤ _; rw [hnx]; omega) (leaf_cx hcn.1 (z := nC 7 2 none 0 4 none) ⟨_, _, _, _, _, rfl⟩)
    exact ⟨_, _, e, this⟩
end B8
