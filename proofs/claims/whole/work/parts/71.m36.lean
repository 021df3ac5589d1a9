def zc (f : Nat → Int32) : Nat := ((List.range 26).filter (fun l => decide (f l = 0))).length
def CS (sc : Nat) (c : ck_S) : Prop := c.1 10 = Int32.ofNat sc ∧ sc + zc (c.2.1 3) = 26 ∧ (∀ q, bt (c.1 12) q = true → q < sc) ∧ (∀ q, bt (c.1 11) q = true → q < sc) ∧ ∃ ix : Nat → Nat, (∀ l, l < 26 → c.2.1 3 l ≠ 0 → c.2.1 3 l = (1 : Int32) <<< (Int32.ofNat (ix l) &&& 31) ∧ ix l < sc) ∧ (∀ l l', l < 26 → l' < 26 → c.2.1 3 l ≠ 0 → c.2.1 3 l' ≠ 0 → ix l = ix l' → l = l') ∧ (∀ q, q < sc → ∃ l, l < 26 ∧ c.2.1 3 l ≠ 0 ∧ ix l = q)
def CW (sz at_ dp lc tr pc sc : Nat) (c : ck_S) : Prop := c.1 7 = Int32.ofNat sz ∧ sz ≤ 500 ∧ c.1 8 = Int32.ofNat at_ ∧ at_ ≤ sz ∧ (∀ i, i < sz → ∃ ch, 33 ≤ ch ∧ ch ≤ 126 ∧ c.2.1 1 i = Int32.ofNat ch) ∧ c.1 13 = Int32.ofNat dp ∧ dp ≤ 13 ∧ c.1 14 = Int32.ofNat tr ∧ tr ≤ 14 ∧ c.1 15 = Int32.ofNat lc ∧ lc ≤ 14 ∧ c.1 16 = Int32.ofNat pc ∧ pc ≤ at_ ∧ (∀ k, 1 ≤ k → k ≤ 4 → c.2.1 2 k = 501 ∨ ∃ w, w ≤ 500 ∧ c.2.1 2 k = Int32.ofNat w) ∧ CS sc c
def pk (sz at_ : Nat) (c : ck_S) : Int32 := if c.2.1 2 1 = 501 then (if at_ < sz then c.2.1 1 at_ else -1) else -1
section B1
variable {sz at_ dp lc tr pc sc : Nat} {c : ck_S}
theorem pkk_eq (h : CW sz at_ dp lc tr pc sc c) : sp_Rd_peek c = some (pk sz at_ c, c) := by
  obtain ⟨h1, h2, h3, h4, h5, _⟩ := h
  unfold sp_Rd_peek pk
  have e1 : (1 : Int32).toNatClampNeg = 1 := by decide
  rw [e1]
  by_cases hb : c.2.1 2 1 = 501
  · rw [if_pos hb, if_pos hb, h1, h3]
    by_cases hl : at_ < sz
    · rw [if_neg (fun e => by have := (le_N (by omega) (by omega)).mp e; omega), if_neg (fun e => by have := (le_N (by decide) (by omega)).mp (show Int32.ofNat 500 ≤ Int32.ofNat at_ from e); omega), if_pos (gi_of (by omega : at_ < 500) (by decide)), cl_of (by omega), if_pos hl]
    · rw [if_pos ((le_N (by omega) (by omega)).mpr (by omega)), if_neg hl]
  · rw [if_neg hb, if_neg hb]
theorem pk_r (h : CW sz at_ dp lc tr pc sc c) : pk sz at_ c = -1 ∨ (c.2.1 2 1 = 501 ∧ at_ < sz ∧ pk sz at_ c = c.2.1 1 at_ ∧ ∃ ch, 33 ≤ ch ∧ ch ≤ 126 ∧ pk sz at_ c = Int32.ofNat ch) := by
  unfold pk
  by_cases hb : c.2.1 2 1 = 501
  · rw [if_pos hb]
    by_cases hl : at_ < sz
    · rw [if_pos hl]
      obtain ⟨ch, a1, a2, a3⟩ := h.2.2.2.2.1 at_ hl
      exact Or.inr ⟨hb, hl, rfl, ch, a1, a2, a3⟩
    · rw [if_neg hl]
      exact Or.inl rfl
  · rw [if_neg hb]
    exact Or.inl rfl
theorem pk_b (hb : c.2.1 2 1 ≠ 501) : pk sz at_ c = -1 := if_neg hb
def cR (c : ck_S) : ck_S := if c.2.1 2 1 = 501 then (c.1, gm_up c.2.1 2 (upd (c.2.1 2) 1 (c.1 8)), c.2.2) else c
def cP (c : ck_S) : ck_S := (upd c.1 8 (c.1 8 + 1), c.2)
def cN (k w : Nat) (c : ck_S) : ck_S := (c.1, gm_up c.2.1 2 (upd (c.2.1 2) k (q_min (c.2.1 2 k) (Int32.ofNat w))), c.2.2)
theorem rf_eq : sp_Rd_refuse c = some (cR c) := by
  unfold sp_Rd_refuse cR
  have e1 : (1 : Int32).toNatClampNeg = 1 := by decide
  rw [e1]
  by_cases hb : c.2.1 2 1 = 501
  · rw [if_pos hb, if_pos hb]
  · rw [if_neg hb, if_neg hb]
theorem nt_eq {k w : Nat} (hk : k < 5) : sp_Rd_note (Int32.ofNat k) (Int32.ofNat w) c = some (cN k w c) := by
  unfold sp_Rd_note cN
  rw [if_pos (gi_of hk (by decide)), cl_of (by omega)]
theorem CW_P (h : CW sz at_ dp lc tr pc sc c) (hl : at_ < sz) : CW sz (at_ + 1) dp lc tr pc sc (cP c) := by
  obtain ⟨h1, h2, h3, h4, h5, h6, h7, h8, h9, h10, h11, h12, h13, h14, h15⟩ := h
  refine ⟨h1, h2, ?_, by omega, h5, h6, h7, h8, h9, h10, h11, h12, by omega, h14, h15⟩
  show upd c.1 8 (c.1 8 + 1) 8 = _
  rw [upd_eq, h3, ofN_s]
theorem CW_R (h : CW sz at_ dp lc tr pc sc c) : CW sz at_ dp lc tr pc sc (cR c) ∧ (cR c).2.1 2 1 ≠ 501 ∧ (c.2.1 2 1 = 501 → (cR c).2.1 2 1 = Int32.ofNat at_) ∧ (c.2.1 2 1 ≠ 501 → cR c = c) := by
  by_cases hb : c.2.1 2 1 = 501
  · have e : cR c = (c.1, gm_up c.2.1 2 (upd (c.2.1 2) 1 (c.1 8)), c.2.2) := if_pos hb
    rw [e]
    obtain ⟨h1, h2, h3, h4, h5, h6, h7, h8, h9, h10, h11, h12, h13, h14, h15⟩ := h
    have e21 : (gm_up c.2.1 2 (upd (c.2.1 2) 1 (c.1 8))) 2 1 = Int32.ofNat at_ := h3
    refine ⟨⟨h1, h2, h3, h4, h5, h6, h7, h8, h9, h10, h11, h12, h13, fun k hk1 hk2 => ?_, h15⟩, ?_, fun _ => e21, fun hn => absurd hb hn⟩
    · show upd (c.2.1 2) 1 (c.1 8) k = 501 ∨ _
      by_cases hk : k = 1
      · subst hk
        exact Or.inr ⟨at_, by omega, e21⟩
      · have : upd (c.2.1 2) 1 (c.1 8) k = c.2.1 2 k := upd_ne hk
        show upd (c.2.1 2) 1 (c.1 8) k = 501 ∨ ∃ w, w ≤ 500 ∧ upd (c.2.1 2) 1 (c.1 8) k = Int32.ofNat w
        rw [this]
        exact h14 k hk1 hk2
    · show (gm_up c.2.1 2 (upd (c.2.1 2) 1 (c.1 8))) 2 1 ≠ 501
      rw [e21]
      intro e'
      have := (eq_N (by omega) (by decide)).mp (show Int32.ofNat at_ = Int32.ofNat 501 from e')
      omega
  · have e : cR c = c := if_neg hb
    rw [e]
    exact ⟨h, hb, fun h' => absurd h' hb, fun _ => rfl⟩
theorem mn_w {f : Int32} {w : Nat} (hw : w ≤ 500) (hf : f = 501 ∨ ∃ v, v ≤ 500 ∧ f = Int32.ofNat v) : ∃ v, v ≤ 500 ∧ q_min f (Int32.ofNat w) = Int32.ofNat v ∧ v ≤ w ∧ (f = 501 → v = w) ∧ (∀ z, z ≤ 500 → f = Int32.ofNat z → v = min z w) := by
  rcases hf with h | ⟨v, hv, h⟩
  · refine ⟨w, hw, ?_, Nat.le_refl _, fun _ => rfl, fun z hz e => ?_⟩
    · unfold q_min
      rw [h, if_pos (show Int32.ofNat w < 501 from (lt_N (b := 501) (by omega) (by decide)).mpr (by omega))]
    · rw [h] at e
      have := (eq_N (by decide) (by omega)).mp (show Int32.ofNat 501 = Int32.ofNat z from e)
      omega
  · refine ⟨min v w, by omega, ?_, by omega, fun e => ?_, fun z hz e => ?_⟩
    · unfold q_min
      rw [h]
      by_cases hlt : w < v
      · rw [if_pos ((lt_N (by omega) (by omega)).mpr hlt), Nat.min_eq_right (by omega)]
      · rw [if_neg (fun e => hlt ((lt_N (by omega) (by omega)).mp e)), Nat.min_eq_left (by omega)]
    · rw [h] at e
      have := (eq_N (by omega) (by decide)).mp (show Int32.ofNat v = Int32.ofNat 501 from e)
      omega
    · rw [h] at e
      have := (eq_N (by omega) (by omega)).mp e
      rw [this]
theorem CW_N {k w : Nat} (hk : 2 ≤ k) (hk4 : k ≤ 4) (hw : w ≤ 500) (h : CW sz at_ dp lc tr pc sc c) : CW sz at_ dp lc tr pc sc (cN k w c) ∧ (cN k w c).2.1 2 1 = c.2.1 2 1 ∧ (cN k w c).2.1 2 k ≠ 501 := by
  obtain ⟨h1, h2, h3, h4, h5, h6, h7, h8, h9, h10, h11, h12, h13, h14, h15⟩ := h
  obtain ⟨v, v1, v2, _⟩ := mn_w hw (h14 k (by omega) hk4)
  refine ⟨⟨h1, h2, h3, h4, h5, h6, h7, h8, h9, h10, h11, h12, h13, fun j hj1 hj2 => ?_, h15⟩, ?_, ?_⟩
  · show upd (c.2.1 2) k (q_min (c.2.1 2 k) (Int32.ofNat w)) j = 501 ∨ ∃ w', w' ≤ 500 ∧ upd (c.2.1 2) k (q_min (c.2.1 2 k) (Int32.ofNat w)) j = Int32.ofNat w'
    by_cases hj : j = k
    · subst hj
      rw [upd_eq]
      exact Or.inr ⟨v, v1, v2⟩
    · rw [upd_ne hj]
      exact h14 j hj1 hj2
  · show upd (c.2.1 2) k _ 1 = _
    rw [upd_ne (by omega)]
  · show upd (c.2.1 2) k (q_min (c.2.1 2 k) (Int32.ofNat w)) k ≠ 501
    rw [upd_eq, v2]
    intro e
    have := (eq_N (by omega) (by decide)).mp (show Int32.ofNat v = Int32.ofNat 501 from e)
    omega
theorem ex_eq {v1 : Int32} (h : CW sz at_ dp lc tr pc sc c) : sp_Rd_expect v1 c = some (if pk sz at_ c = v1 then cP c else cR c) := by
  unfold sp_Rd_expect
  rw [pkk_eq h]
  simp only
  by_cases he : pk sz at_ c = v1
  · rw [if_pos he, if_pos he]
    rfl
  · rw [if_neg he, if_neg he, rf_eq]
theorem ta_eq (h : CW sz at_ dp lc tr pc sc c) : sp_Rd_takeAny c = some (pk sz at_ c, if pk sz at_ c = -1 then c else cP c) := by
  unfold sp_Rd_takeAny
  rw [pkk_eq h]
  simp only
  by_cases he : pk sz at_ c = -1
  · rw [if_pos he, if_pos he]
  · rw [if_neg he, if_neg he]
    rfl
theorem tb_eq {v1 v2 : Int32} (h : CW sz at_ dp lc tr pc sc c) : sp_Rd_takeBetween v1 v2 c = some (if q_in (pk sz at_ c) v1 v2 = 0 then (-1, cR c) else (pk sz at_ c, cP c)) := by
  unfold sp_Rd_takeBetween
  rw [pkk_eq h]
  simp only [rf_eq]
  unfold q_in
  by_cases h1 : pk sz at_ c < v1
  · rw [if_pos h1, if_pos h1, if_pos rfl]
  · rw [if_neg h1, if_neg h1]
    by_cases h2 : v2 < pk sz at_ c
    · rw [if_pos h2, if_pos rfl, if_neg (fun e => by
        rw [Int32.le_iff_toInt_le] at e
        rw [Int32.lt_iff_toInt_lt] at h2
        omega)]
    · rw [if_neg h2, if_pos (show pk sz at_ c ≤ v2 by
        rw [Int32.le_iff_toInt_le]
        rw [Int32.lt_iff_toInt_lt] at h2
        omega), if_neg (by decide)]
      rfl
end B1
