def CT (sz at_ : Nat) (c : ck_S) : Prop := c.1 7 = Int32.ofNat sz ∧ sz ≤ 500 ∧ c.1 8 = Int32.ofNat at_ ∧ at_ ≤ sz ∧ (∀ i, i < sz → ∃ ch, 33 ≤ ch ∧ ch ≤ 126 ∧ c.2.1 1 i = Int32.ofNat ch) ∧ (∀ k, 1 ≤ k → k ≤ 4 → c.2.1 2 k = 501 ∨ ∃ w, w ≤ 500 ∧ c.2.1 2 k = Int32.ofNat w)
def TF (c c' : ck_S) : Prop := (∀ j, (j < 8 ∨ 16 < j) → c'.1 j = c.1 j) ∧ c'.2.2.1 = c.2.2.1 ∧ c'.2.1 1 = c.2.1 1 ∧ (c.2.1 2 1 ≠ 501 → c'.2.1 2 1 = c.2.1 2 1) ∧ (∀ k, 2 ≤ k → k ≤ 4 → c.2.1 2 k ≠ 501 → c'.2.1 2 k ≠ 501) ∧ (∀ q, q < c.2.2.2.2.1 → c'.2.2.2.1 q = c.2.2.2.1 q) ∧ c.2.2.2.2.1 ≤ c'.2.2.2.2.1
theorem TF_rf {c : ck_S} : TF c c := ⟨fun _ _ => rfl, rfl, rfl, fun _ => rfl, fun _ _ _ h => h, fun _ _ => rfl, Nat.le_refl _⟩
theorem TF_tr {c c1 c2 : ck_S} (h : TF c c1) (k : TF c1 c2) : TF c c2 := by
  obtain ⟨a1, a2, a3, a4, a5, a6, a7⟩ := h
  obtain ⟨b1, b2, b3, b4, b5, b6, b7⟩ := k
  refine ⟨fun j hj => (b1 j hj).trans (a1 j hj), b2.trans a2, b3.trans a3, fun h0 => ?_, fun k h2 h4 h0 => b5 k h2 h4 (a5 k h2 h4 h0), fun q hq => (b6 q (by omega)).trans (a6 q hq), by omega⟩
  rw [b4 (by rw [a4 h0]; exact h0), a4 h0]
section H1
variable {sz at_ dp lc tr pr pc sc pt : Nat} {σ : gm_S} {c : ck_S}
theorem CW_T (h : CW sz at_ dp lc tr pc sc c) : CT sz at_ c := ⟨h.1, h.2.1, h.2.2.1, h.2.2.2.1, h.2.2.2.2.1, h.2.2.2.2.2.2.2.2.2.2.2.2.2.1⟩
theorem TF_v {c' : ck_S} {at' pc' sc' : Nat} (h : CV sz at_ dp lc tr pc sc c c' at' pc' sc') : TF c c' := by
  obtain ⟨_, _, _, _, hf, hh, _⟩ := h
  exact ⟨fun j hj => hf.1 j (by omega) (by omega) (by omega), hf.2.1, hf.2.2.1, hf.2.2.2.2.2.2.1, hf.2.2.2.2.2.2.2, hh.2.1, hh.1⟩
theorem gm_up2 {g : Nat → Nat → Int32} {k : Nat} {f f' : Nat → Int32} : gm_up (gm_up g k f) k f' = gm_up g k f' := by
  funext j
  unfold gm_up
  by_cases h : j = k
  · rw [if_pos h, if_pos h]
  · rw [if_neg h, if_neg h, if_neg h]
theorem gm_upI {g : Nat → Nat → Int32} {k : Nat} : gm_up g k (g k) = g := by
  funext j
  unfold gm_up
  by_cases h : j = k
  · rw [if_pos h, h]
  · rw [if_neg h]
theorem fill3 : ∀ (k m : Nat) (c : ck_S), k ≤ 26 → k < m → ∃ f, sp_Arrays_fill_3_5 m 0 (Int32.ofNat (26 - k)) 26 c = some (c.1, gm_up c.2.1 3 f, c.2.2) ∧ (∀ i, 26 - k ≤ i → i < 26 → f i = 0) ∧ (∀ i, i < 26 - k → f i = c.2.1 3 i) := by
  intro k
  induction k with
  | zero =>
    intro m c _ hm
    obtain ⟨m, rfl⟩ : ∃ j, m = j + 1 := ⟨m - 1, by omega⟩
    refine ⟨c.2.1 3, ?_, fun i h1 h2 => by omega, fun i _ => rfl⟩
    unfold sp_Arrays_fill_3_5
    rw [if_pos (show (26 : Int32) ≤ Int32.ofNat (26 - 0) by decide), gm_upI]
  | succ k ih =>
    intro m c hk hm
    obtain ⟨m, rfl⟩ : ∃ j, m = j + 1 := ⟨m - 1, by omega⟩
    unfold sp_Arrays_fill_3_5
    rw [if_neg (show ¬ ((26 : Int32) ≤ Int32.ofNat (26 - (k + 1))) from fun e => by have := (le_N (a := 26) (by decide) (by omega)).mp e; omega), if_pos (gi_of (by omega) (by decide)), cl_of (by omega), ofN_s, show 26 - (k + 1) + 1 = 26 - k by omega]
    obtain ⟨f, f1, f2, f3⟩ := ih m (c.1, gm_up c.2.1 3 (upd (c.2.1 3) (26 - (k + 1)) 0), c.2.2.1, c.2.2.2.1, c.2.2.2.2.1, c.2.2.2.2.2) (by omega) (by omega)
    refine ⟨f, ?_, fun i h1 h2 => ?_, fun i hi => ?_⟩
    · rw [f1]
      show some (c.1, gm_up (gm_up c.2.1 3 _) 3 f, c.2.2) = _
      rw [gm_up2]
    · by_cases h3 : 26 - k ≤ i
      · exact f2 i h3 h2
      · rw [f3 i (by omega)]
        show upd (c.2.1 3) (26 - (k + 1)) 0 i = 0
        rw [show i = 26 - (k + 1) by omega, upd_eq]
    · rw [f3 i (by omega)]
      show upd (c.2.1 3) (26 - (k + 1)) 0 i = _
      rw [upd_ne (by omega)]
theorem zc_0 {f : Nat → Int32} (h : ∀ l, l < 26 → f l = 0) : zc f = 26 := by
  unfold zc
  have : (List.range 26).filter (fun l => decide (f l = 0)) = List.range 26 := by
    apply List.filter_eq_self.mpr
    intro l hl
    exact decide_eq_true (h l (List.mem_range.mp hl))
  rw [this]
  rfl
theorem start_eq (h : CT sz at_ c) : ∃ c1, sp_Rd_startProgram c = some c1 ∧ CW sz at_ 0 0 0 0 0 c1 ∧ c1.2.2 = c.2.2 ∧ (∀ j, (j < 10 ∨ 16 < j) → c1.1 j = c.1 j) ∧ c1.1 11 = 0 ∧ c1.1 12 = 0 ∧ (∀ j, j ≠ 3 → c1.2.1 j = c.2.1 j) ∧ (∀ l, l < 26 → c1.2.1 3 l = 0) := by
  obtain ⟨f, f1, f2, _⟩ := fill3 26 2601 c (Nat.le_refl _) (by decide)
  have hz : ∀ l, l < 26 → f l = 0 := fun l hl => f2 l (by omega) hl
  have e : sp_Arrays_fill_3 0 c = some (c.1, gm_up c.2.1 3 f, c.2.2) := f1
  unfold sp_Rd_startProgram
  rw [e]
  obtain ⟨h1, h2, h3, h4, h5, h6⟩ := h
  have e3 : ∀ l, l < 26 → (gm_up c.2.1 3 f) 3 l = 0 := fun l hl => hz l hl
  refine ⟨_, rfl, ⟨h1, h2, h3, h4, h5, rfl, by omega, rfl, by omega, rfl, by omega, rfl, by omega, h6, rfl, ?_, fun q hq => ?_, fun q hq => ?_, fun _ => 0, fun l hl h0 => absurd (e3 l hl) h0, fun l l' hl _ h0 => absurd (e3 l hl) h0, fun q hq => by omega⟩, rfl, fun j hj => ?_, rfl, rfl, fun j hj => if_neg hj, hz⟩
  · show 0 + zc f = 26
    rw [zc_0 hz]
  · have : bt 0 q = true := hq
    rw [bt_0] at this
    cases this
  · have : bt 0 q = true := hq
    rw [bt_0] at this
    cases this
  · show upd (upd (upd (upd (upd (upd (upd c.1 10 0) 11 0) 12 0) 13 0) 14 0) 15 0) 16 0 j = _
    rw [upd_ne (by omega), upd_ne (by omega), upd_ne (by omega), upd_ne (by omega), upd_ne (by omega), upd_ne (by omega), upd_ne (by omega)]
def cK (x : Int32) (c : ck_S) : ck_S := (upd c.1 9 (c.1 9 ||| ((1 : Int32) <<< ((x - 65) &&& 31))), c.2)
theorem CW_K {x : Int32} (h : CW sz at_ dp lc tr pc sc c) : CW sz at_ dp lc tr pc sc (cK x c) := h
theorem q65 {x : Int32} (h : ¬ q_in x 65 70 = 0) : x ≠ -1 := fun e => h (by rw [e]; decide)
theorem name_eq (h : CW sz at_ dp lc tr pc sc c) : sp_Rd_readName c = some (if q_in (pk sz at_ c) 65 70 = 0 then (-1, cR c) else (pk sz at_ c, if c.1 9 &&& ((1 : Int32) <<< ((pk sz at_ c - 65) &&& 31)) = 0 then cK (pk sz at_ c) (cP c) else cK (pk sz at_ c) (cN 2 at_ (cP c)))) := by
  have h8 : c.1 8 = Int32.ofNat at_ := h.2.2.1
  have e2 : ∀ c', sp_Rd_note 2 (c.1 8) c' = some (cN 2 at_ c') := fun c' => by
    rw [h8]
    exact nt_eq (k := 2) (by decide)
  unfold sp_Rd_readName
  rw [tb_eq h]
  simp only
  by_cases hq : q_in (pk sz at_ c) 65 70 = 0
  · rw [if_pos hq, if_pos hq]
    rw [if_pos rfl]
  · rw [if_neg hq, if_neg hq]
    simp only
    rw [if_neg (q65 hq), e2]
    have e9 : (cP c).1 9 = c.1 9 := rfl
    rw [e9]
    by_cases hb : c.1 9 &&& ((1 : Int32) <<< ((pk sz at_ c - 65) &&& 31)) = 0
    · rw [if_pos hb, if_pos hb]
      rfl
    · rw [if_neg hb, if_neg hb]
      rfl
theorem TF_K {x : Int32} : TF c (cK x c) := ⟨fun j hj => upd_ne (by omega), rfl, rfl, fun _ => rfl, fun _ _ _ h => h, fun _ _ => rfl, Nat.le_refl _⟩
theorem cR_h : (cR c).2.2 = c.2.2 := by
  unfold cR
  by_cases hb' : c.2.1 2 1 = 501
  · rw [if_pos hb']
  · rw [if_neg hb']
theorem name_c (h : CW sz at_ dp lc tr pc sc c) : ∃ x c1 at', sp_Rd_readName c = some (x, c1) ∧ CW sz at' dp lc tr pc sc c1 ∧ at_ ≤ at' ∧ TF c c1 ∧ c1.2.2 = c.2.2 := by
  rw [name_eq h]
  by_cases hq : q_in (pk sz at_ c) 65 70 = 0
  · rw [if_pos hq]
    exact ⟨_, _, at_, rfl, (CW_R h).1, Nat.le_refl _, TF_v (CV_R h), cR_h⟩
  · rw [if_neg hq]
    have hs : sz ≤ 500 := h.2.1
    have ha : at_ ≤ sz := h.2.2.2.1
    rcases pk_r h with h1 | ⟨h1, h2, _⟩
    · exact absurd h1 (q65 hq)
    · have hp := CV_P h h2 h1
      by_cases hb : c.1 9 &&& ((1 : Int32) <<< ((pk sz at_ c - 65) &&& 31)) = 0
      · rw [if_pos hb]
        exact ⟨_, _, at_ + 1, rfl, CW_K hp.1, by omega, TF_tr (TF_v hp) TF_K, rfl⟩
      · rw [if_neg hb]
        have hn := CV_N (k := 2) (w := at_) (by decide) (by decide) (by omega) hp.1
        exact ⟨_, _, at_ + 1, rfl, CW_K hn.1, by omega, TF_tr (TF_tr (TF_v hp) (TF_v hn)) TF_K, rfl⟩
theorem sl_eq (h : CW sz at_ dp lc tr pc sc c) : sp_Rd_seesLetter c = some (q_in (pk sz at_ c) 97 122, c) := by
  unfold sp_Rd_seesLetter
  rw [pkk_eq h]
  simp only
  rw [pkk_eq h]
  simp only
  unfold q_in
  by_cases h1 : pk sz at_ c < 97
  · rw [if_pos h1, if_pos h1]
  · rw [if_neg h1, if_neg h1]
    by_cases h2 : 122 < pk sz at_ c
    · rw [if_pos h2, if_pos h2]
    · rw [if_neg h2, if_neg h2]
theorem CW_12 {t : Int32} (ht : ∀ q, bt t q = true → q < sc) (h : CW sz at_ dp lc tr pc sc c) : CW sz at_ dp lc tr pc sc (upd c.1 12 t, c.2) := by
  obtain ⟨h1, h2, h3, h4, h5, h6, h7, h8, h9, h10, h11, h12, h13, h14, s1, s2, s3, s4, s5⟩ := h
  exact ⟨h1, h2, h3, h4, h5, h6, h7, h8, h9, h10, h11, h12, h13, h14, s1, s2, ht, s4, s5⟩
theorem CW_11 {t : Int32} (ht : ∀ q, bt t q = true → q < sc) (h : CW sz at_ dp lc tr pc sc c) : CW sz at_ dp lc tr pc sc (upd c.1 11 t, c.2) := by
  obtain ⟨h1, h2, h3, h4, h5, h6, h7, h8, h9, h10, h11, h12, h13, h14, s1, s2, s3, s4, s5⟩ := h
  exact ⟨h1, h2, h3, h4, h5, h6, h7, h8, h9, h10, h11, h12, h13, h14, s1, s2, s3, ht, s5⟩
theorem TF_w {j : Nat} {x : Int32} (h1 : 8 ≤ j) (h2 : j ≤ 16) : TF c (upd c.1 j x, c.2) := ⟨fun i hi => upd_ne (by omega), rfl, rfl, fun _ => rfl, fun _ _ _ h => h, fun _ _ => rfl, Nat.le_refl _⟩
theorem sigs_c {v0 : Int32} : ∀ (d m at_ sc v2 : Nat) (c : ck_S), CW sz at_ dp lc tr pc sc c → sz - at_ ≤ d → d < m → v2 ≤ at_ → ∃ at' sc' c', sp_Rd_readSignals_7 m v0 (Int32.ofNat v2) c = some (c'.1 10 - v0, c') ∧ CW sz at' dp lc tr pc sc' c' ∧ at_ ≤ at' ∧ TF c c' ∧ c'.2.2 = c.2.2 := by
  intro d
  induction d with
  | zero =>
    intro m at_ sc v2 c h hd hm hv
    obtain ⟨m, rfl⟩ : ∃ j, m = j + 1 := ⟨m - 1, by omega⟩
    have hp : pk sz at_ c = -1 := by
      rcases pk_r h with h1 | ⟨h1, h2, _⟩
      · exact h1
      · omega
    unfold sp_Rd_readSignals_7
    by_cases h5 : (500 : Int32) ≤ Int32.ofNat v2
    · rw [if_pos h5]
      exact ⟨at_, sc, c, rfl, h, Nat.le_refl _, TF_rf, rfl⟩
    · rw [if_neg h5, sl_eq h, hp]
      simp only
      rw [if_pos (by decide)]
      exact ⟨at_, sc, c, rfl, h, Nat.le_refl _, TF_rf, rfl⟩
  | succ d ih =>
    intro m at_ sc v2 c h hd hm hv
    obtain ⟨m, rfl⟩ : ∃ j, m = j + 1 := ⟨m - 1, by omega⟩
    unfold sp_Rd_readSignals_7
    by_cases h5 : (500 : Int32) ≤ Int32.ofNat v2
    · rw [if_pos h5]
      exact ⟨at_, sc, c, rfl, h, Nat.le_refl _, TF_rf, rfl⟩
    · rw [if_neg h5, sl_eq h]
      simp only
      by_cases hq : q_in (pk sz at_ c) 97 122 = 0
      · rw [if_pos hq]
        exact ⟨at_, sc, c, rfl, h, Nat.le_refl _, TF_rf, rfl⟩
      · rw [if_neg hq]
        obtain ⟨hb, hl, l, l1, l2, _⟩ := let_in h hq
        have hsz : sz ≤ 500 := h.2.1
        have hat : at_ + 1 ≤ sz := hl
        have key : ∃ s c1 sc1, sp_Rd_readNewSignal c = some (s, c1) ∧ CV sz at_ dp lc tr pc sc c c1 (at_ + 1) pc sc1 ∧ c1.2.2 = c.2.2 ∧ (∀ q, bt s q = true → q < sc1) := by
          obtain ⟨s, c1, at', sc1, e1, e2, e3, e4, e5⟩ := newS_cv h
          have : at' = at_ + 1 := by
            have e0 := (newS_eq h).2 l l1 hl hb l2
            rw [e0] at e1
            have h8 : c1.1 8 = Int32.ofNat (at_ + 1) := by
              have h8' : (cP c).1 8 = Int32.ofNat (at_ + 1) := (CV_P h hl hb).1.2.2.1
              by_cases hz : c.2.1 3 l &&& c.1 12 = 0
              · rw [if_pos hz] at e1
                by_cases h0 : c.2.1 3 l = 0
                · rw [if_pos h0] at e1
                  cases e1
                  exact h8'
                · rw [if_neg h0] at e1
                  cases e1
                  exact h8'
              · rw [if_neg hz] at e1
                cases e1
                exact h8'
            have h8'' := e2.1.2.2.1
            have h9 := e2.1.2.2.2.1
            rw [h8] at h8''
            exact ((eq_N (by omega) (by omega)).mp h8'').symm
          subst this
          exact ⟨s, c1, sc1, e1, e2, e4, e5⟩
        obtain ⟨s, c1, sc1, e1, e2, e4, e5⟩ := key
        rw [e1]
        simp only
        rw [ofN_s]
        have h12 : ∀ q, bt (c.1 12 ||| s) q = true → q < sc1 := by
          intro q hq
          rw [bt_or, Bool.or_eq_true] at hq
          rcases hq with e | e
          · have := h.2.2.2.2.2.2.2.2.2.2.2.2.2.2.2.2.1 q e
            have := e2.2.2.2.1
            omega
          · exact e5 q e
        obtain ⟨at', sc', c', r1, r2, r3, r4, r5⟩ := ih m (at_ + 1) sc1 (v2 + 1) _ (CW_12 h12 e2.1) (by omega) (by omega) (by omega)
        exact ⟨at', sc', c', r1, r2, by omega, TF_tr (TF_v e2) (TF_tr (TF_w (by decide) (by decide)) r4), r5.trans e4⟩
end H1
