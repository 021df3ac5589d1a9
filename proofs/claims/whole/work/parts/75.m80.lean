def AL (sz at_ : Nat) (σ : gm_S) (c : ck_S) : Prop := CT sz at_ c ∧ c.2.1 2 1 = 501 ∧ σ.1 3 = Int32.ofNat sz ∧ σ.1 27 = Int32.ofNat at_ ∧ ∀ i, i < sz → σ.2 4 i = c.2.1 1 i
def fw (at_ : Nat) (σ : gm_S) (c : ck_S) : Prop := (c.2.1 2 2 = 501 ∧ σ.2 30 2 = -1) ∨ ∃ w, w ≤ at_ ∧ c.2.1 2 2 = Int32.ofNat w ∧ σ.2 30 2 = Int32.ofNat w
def rV (σ σ' : gm_S) : Prop := (∀ j, j ≠ 27 → j ≠ 28 → j ≠ 29 → j ≠ 32 → j ≠ 19 → j ≠ 34 → j ≠ 35 → j ≠ 10 → σ'.1 j = σ.1 j) ∧ (∀ j, (j < 11 ∨ j = 19 ∨ 26 < j) → j ≠ 30 → j ≠ 31 → j ≠ 33 → j ≠ 49 → σ'.2 j = σ.2 j) ∧ σ'.2 49 0 = σ.2 49 0
def rH (pr pt : Nat) (σ σ' : gm_S) : Prop := rV σ σ' ∧ (∀ i, i < pr → σ'.2 11 i = σ.2 11 i ∧ σ'.2 12 i = σ.2 12 i ∧ σ'.2 14 i = σ.2 14 i ∧ σ'.2 16 i = σ.2 16 i ∧ σ'.2 17 i = σ.2 17 i) ∧ (∀ i, i ≤ pr → σ'.2 49 i = σ.2 49 i) ∧ (∀ i, i < 26 * pr → σ'.2 13 i = σ.2 13 i ∧ σ'.2 15 i = σ.2 15 i) ∧ (∀ i, i < 30 * pr → σ'.2 18 i = σ.2 18 i) ∧ (∀ j q, 20 ≤ j → j ≤ 26 → q < pt → σ'.2 j q = σ.2 j q)
theorem rV_rf {σ : gm_S} : rV σ σ := ⟨fun _ _ _ _ _ _ _ _ _ => rfl, fun _ _ _ _ _ _ => rfl, rfl⟩
theorem rV_tr {σ σ1 σ2 : gm_S} (h : rV σ σ1) (k : rV σ1 σ2) : rV σ σ2 := ⟨fun j a b c d e f g i => (k.1 j a b c d e f g i).trans (h.1 j a b c d e f g i), fun j a b c d e => (k.2.1 j a b c d e).trans (h.2.1 j a b c d e), k.2.2.trans h.2.2⟩
theorem rV_W {σ σ' : gm_S} (h : rW σ σ') : rV σ σ' := ⟨fun j a b c d e f g _ => h.1 j a b c d e f g, fun j a b c d _ => h.2 j b c d (by omega) (by omega) (by omega), by rw [h.2 49 (by decide) (by decide) (by decide) (by decide) (by decide) (by decide)]⟩
theorem rH_rf {pr pt : Nat} {σ : gm_S} : rH pr pt σ σ := ⟨rV_rf, fun _ _ => ⟨rfl, rfl, rfl, rfl, rfl⟩, fun _ _ => rfl, fun _ _ => ⟨rfl, rfl⟩, fun _ _ => rfl, fun _ _ _ _ _ => rfl⟩
theorem rH_tr {pr pt : Nat} {σ σ1 σ2 : gm_S} (h : rH pr pt σ σ1) (k : rH pr pt σ1 σ2) : rH pr pt σ σ2 := by
  obtain ⟨a1, a2, a3, a4, a5, a6⟩ := h
  obtain ⟨b1, b2, b3, b4, b5, b6⟩ := k
  refine ⟨rV_tr a1 b1, fun i hi => ?_, fun i hi => (b3 i hi).trans (a3 i hi), fun i hi => ⟨(b4 i hi).1.trans (a4 i hi).1, (b4 i hi).2.trans (a4 i hi).2⟩, fun i hi => (b5 i hi).trans (a5 i hi), fun j q h1 h2 h3 => (b6 j q h1 h2 h3).trans (a6 j q h1 h2 h3)⟩
  obtain ⟨x1, x2, x3, x4, x5⟩ := a2 i hi
  obtain ⟨y1, y2, y3, y4, y5⟩ := b2 i hi
  exact ⟨y1.trans x1, y2.trans x2, y3.trans x3, y4.trans x4, y5.trans x5⟩
theorem rH_U {pr pc pt tr : Nat} {σ σ' : gm_S} (h : rU pr pc pt tr σ σ') : rH pr pt σ σ' := by
  obtain ⟨a1, a2, a3, a4, a5, a6⟩ := h
  have e : ∀ j, j ≠ 30 → j ≠ 31 → j ≠ 33 → j ≠ 17 → j ≠ 18 → (j < 20 ∨ 26 < j) → σ'.2 j = σ.2 j := a1.2
  exact ⟨rV_W a1, fun i hi => ⟨by rw [e 11 (by decide) (by decide) (by decide) (by decide) (by decide) (by decide)], by rw [e 12 (by decide) (by decide) (by decide) (by decide) (by decide) (by decide)], by rw [e 14 (by decide) (by decide) (by decide) (by decide) (by decide) (by decide)], by rw [e 16 (by decide) (by decide) (by decide) (by decide) (by decide) (by decide)], a3 i (by omega)⟩, fun i _ => by rw [e 49 (by decide) (by decide) (by decide) (by decide) (by decide) (by decide)], fun i _ => ⟨by rw [e 13 (by decide) (by decide) (by decide) (by decide) (by decide) (by decide)], by rw [e 15 (by decide) (by decide) (by decide) (by decide) (by decide) (by decide)]⟩, fun i hi => a4 i (by omega), a5⟩
section H3
variable {sz at_ dp lc tr pr pc sc pt ni no : Nat} {li lo : Nat → Nat} {σ : gm_S} {c : ck_S}
theorem CT_r (h : CT sz at_ c) : pk sz at_ c = -1 ∨ (c.2.1 2 1 = 501 ∧ at_ < sz ∧ pk sz at_ c = c.2.1 1 at_ ∧ ∃ ch, 33 ≤ ch ∧ ch ≤ 126 ∧ pk sz at_ c = Int32.ofNat ch) := by
  unfold pk
  by_cases hb : c.2.1 2 1 = 501
  · rw [if_pos hb]
    by_cases hl : at_ < sz
    · rw [if_pos hl]
      obtain ⟨ch, a1, a2, a3⟩ := h.2.2.2.2.1 at_ hl
      exact Or.inr ⟨hb, hl, rfl, ch, a1, a2, a3⟩
    · rw [if_neg hl]
      exact Or.inl rfl
  · rw [if_neg hb]
    exact Or.inl rfl
theorem see_a (h : AL sz at_ σ c) : sp_Md_see σ = some (sv sz at_ σ, σ) := by
  obtain ⟨h1, h2, h3, h4, _⟩ := h
  have hs : sz ≤ 500 := h1.2.1
  have ha : at_ ≤ sz := h1.2.2.2.1
  unfold sp_Md_see sv
  rw [h3, h4]
  by_cases hl : at_ < sz
  · rw [if_neg (fun e => by have := (le_N (by omega) (by omega)).mp e; omega), if_pos (gi_of (by omega : at_ < 500) (by decide)), cl_of (by omega), if_pos hl]
  · rw [if_pos ((le_N (by omega) (by omega)).mpr (by omega)), if_neg hl]
theorem sv_a (h : AL sz at_ σ c) : (at_ < sz ∧ ∃ ch, 33 ≤ ch ∧ ch ≤ 126 ∧ sv sz at_ σ = Int32.ofNat ch ∧ pk sz at_ c = Int32.ofNat ch) ∨ (at_ = sz ∧ sv sz at_ σ = 0 ∧ pk sz at_ c = -1) := by
  obtain ⟨h1, h2, h3, h4, h5⟩ := h
  have ha : at_ ≤ sz := h1.2.2.2.1
  by_cases hl : at_ < sz
  · obtain ⟨ch, a1, a2, a3⟩ := h1.2.2.2.2.1 at_ hl
    refine Or.inl ⟨hl, ch, a1, a2, ?_, ?_⟩
    · unfold sv
      rw [if_pos hl, h5 at_ hl, a3]
    · unfold pk
      rw [if_pos h2, if_pos hl, a3]
  · refine Or.inr ⟨by omega, ?_, ?_⟩
    · unfold sv
      rw [if_neg hl]
    · unfold pk
      rw [if_pos h2, if_neg hl]
theorem sv_ia (h : AL sz at_ σ c) {x : Nat} (hx : 33 ≤ x) (hx2 : x ≤ 126) : (sv sz at_ σ = Int32.ofNat x ↔ pk sz at_ c = Int32.ofNat x) := by
  rcases sv_a h with ⟨_, ch, c1, c2, c3, c4⟩ | ⟨_, c1, c2⟩
  · rw [c3, c4]
  · rw [c1, c2]
    constructor
    · intro e
      have := (eq_N (by decide) (by omega)).mp (show Int32.ofNat 0 = Int32.ofNat x from e)
      omega
    · intro e
      exact absurd e.symm (ofN_n1 (by omega))
theorem sv_qa (h : AL sz at_ σ c) {lo hi : Int32} (h1 : (0 : Int32) < lo) : (q_in (sv sz at_ σ) lo hi = 0 ↔ q_in (pk sz at_ c) lo hi = 0) := by
  rcases sv_a h with ⟨_, ch, c1, c2, c3, c4⟩ | ⟨_, c1, c2⟩
  · rw [c3, c4]
  · rw [c1, c2]
    have e1 : q_in 0 lo hi = 0 := by
      unfold q_in
      rw [if_pos h1]
    have e2 : q_in (-1) lo hi = 0 := by
      unfold q_in
      rw [if_pos (by rw [Int32.lt_iff_toInt_lt] at h1 ⊢; have : (-1 : Int32).toInt = -1 := rfl; have : (0 : Int32).toInt = 0 := rfl; omega)]
    rw [e1, e2]
theorem want_a {x : Int32} (h : AL sz at_ σ c) : sp_Md_want x σ = some (if sv sz at_ σ = x then (1, mP σ) else (0, σ)) := by
  unfold sp_Md_want
  rw [see_a h]
  simp only
  by_cases e : sv sz at_ σ = x
  · rw [if_pos e, if_pos e]
    rfl
  · rw [if_neg e, if_neg e]
theorem CW_A (h : CW sz at_ dp lc tr pc sc c) (h1 : c.2.1 2 1 = 501) (h2 : σ.1 3 = Int32.ofNat sz) (h3 : σ.1 27 = Int32.ofNat at_) (h4 : ∀ i, i < sz → σ.2 4 i = c.2.1 1 i) : AL sz at_ σ c := ⟨CW_T h, h1, h2, h3, h4⟩
theorem QR_A (h : QR sz at_ dp lc tr pr pc sc pt σ c) : AL sz at_ σ c := CW_A h.1 h.2.1 h.2.2.1 h.2.2.2.1 h.2.2.2.2.1
theorem fw_N {w : Nat} (hw : w ≤ at_) (ha : at_ ≤ 500) (h : fw at_ σ c) : fw at_ (mN 2 w σ) (cN 2 w c) := by
  obtain ⟨m1, m2⟩ := mN_k (σ := σ) (k := 2) (w := w) (by omega)
  obtain ⟨n1, n2⟩ := cN_k (c := c) (k := 2) (w := w) (by omega)
  rcases h with ⟨e1, e2⟩ | ⟨z, z1, z2, z3⟩
  · exact Or.inr ⟨w, hw, n1 e1, m1 e2⟩
  · exact Or.inr ⟨min z w, by omega, n2 z (by omega) z2, m2 z (by omega) z3⟩
theorem fw_s (h : fw at_ σ c) : fw (at_ + 1) σ c := by
  rcases h with e | ⟨z, z1, z2, z3⟩
  · exact Or.inl e
  · exact Or.inr ⟨z, by omega, z2, z3⟩
theorem fw_c {σ' : gm_S} {c' : ck_S} (h1 : σ'.2 30 2 = σ.2 30 2) (h2 : c'.2.1 2 2 = c.2.1 2 2) (h : fw at_ σ c) : fw at_ σ' c' := by
  unfold fw
  rw [h1, h2]
  exact h
theorem frk_c {k : Nat} {σ' : gm_S} {c' : ck_S} (h1 : σ'.2 30 k = σ.2 30 k) (h2 : c'.2.1 2 k = c.2.1 2 k) (h : frk k σ c) : frk k σ' c' := by
  unfold frk
  rw [h1, h2]
  exact h
def HB (sz at_ pr pt sc : Nat) (σ : gm_S) (c : ck_S) : Prop := CW sz at_ 0 0 0 0 sc c ∧ AL sz at_ σ c ∧ σ.1 28 = 0 ∧ σ.1 29 = 0 ∧ σ.1 32 = 0 ∧ (σ.1 10 = Int32.ofNat pr ∧ pr < 6 ∧ σ.2 17 pr = 0) ∧ σ.1 19 = Int32.ofNat pt ∧ fw at_ σ c ∧ frk 3 σ c ∧ frk 4 σ c
def HL (pr ni no : Nat) (li lo : Nat → Nat) (σ : gm_S) (c : ck_S) : Prop := σ.2 12 pr = Int32.ofNat ni ∧ σ.2 14 pr = Int32.ofNat no ∧ (∀ q, bt (c.1 12) q = decide (q < ni + no)) ∧ (∀ i, i < ni → σ.2 13 (26 * pr + i) = Int32.ofNat (li i) ∧ li i < 26 ∧ c.2.1 3 (li i) = (1 : Int32) <<< (Int32.ofNat i &&& 31) ∧ σ.2 31 (li i) = 1) ∧ (∀ i, i < no → σ.2 15 (26 * pr + i) = Int32.ofNat (lo i) ∧ lo i < 26 ∧ c.2.1 3 (lo i) = (1 : Int32) <<< (Int32.ofNat (ni + i) &&& 31) ∧ σ.2 31 (lo i) = 2) ∧ (∀ l, l < 26 → σ.2 31 l ≠ 0 → (∃ i, i < ni ∧ li i = l) ∨ (∃ i, i < no ∧ lo i = l)) ∧ (∀ l, l < 26 → (σ.2 31 l = 0 ↔ c.2.1 3 l = 0))
def c12 (s : Int32) (c0 c : ck_S) : ck_S := (upd c.1 12 (c0.1 12 ||| s), c.2)
theorem HB_P (h : HB sz at_ pr pt sc σ c) (hl : at_ < sz) : HB sz (at_ + 1) pr pt sc (mP σ) (cP c) := by
  obtain ⟨h1, ⟨a1, a2, a3, a4, a5⟩, h3, h4, h5, h6, h7, h8, h9, h10⟩ := h
  have hp := CW_P h1 hl
  refine ⟨hp, ⟨CW_T hp, a2, a3, ?_, a5⟩, h3, h4, h5, h6, h7, fw_s h8, h9, h10⟩
  show upd σ.1 27 (σ.1 27 + 1) 27 = _
  rw [upd_eq, a4, ofN_s]
theorem HB_N (h : HB sz at_ pr pt sc σ c) {w : Nat} (hw : w ≤ at_) : HB sz at_ pr pt sc (mN 2 w σ) (cN 2 w c) := by
  obtain ⟨h1, ⟨a1, a2, a3, a4, a5⟩, h3, h4, h5, h6, h7, h8, h9, h10⟩ := h
  have hs : sz ≤ 500 := h1.2.1
  have ha : at_ ≤ sz := h1.2.2.2.1
  have hn := CW_N (k := 2) (w := w) (by decide) (by decide) (by omega) h1
  obtain ⟨o1, o2, o3⟩ := mN_o (σ := σ) (k := 2) (w := w)
  have cne : ∀ q, q ≠ 2 → (cN 2 w c).2.1 2 q = c.2.1 2 q := fun q hq => upd_ne hq
  exact ⟨hn.1, ⟨CW_T hn.1, hn.2.1.trans a2, by rw [o1]; exact a3, by rw [o1]; exact a4, by rw [o2 4 (by decide)]; exact a5⟩, by rw [o1]; exact h3, by rw [o1]; exact h4, by rw [o1]; exact h5, by rw [o1, o2 17 (by decide)]; exact h6, by rw [o1]; exact h7, fw_N hw (by omega) h8, frk_c (o3 3 (by decide)) (cne 3 (by decide)) h9, frk_c (o3 4 (by decide)) (cne 4 (by decide)) h10⟩
end H3
