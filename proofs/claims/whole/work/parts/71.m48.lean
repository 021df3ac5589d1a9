def fr2 (at_ : Nat) (σ : gm_S) (c : ck_S) : Prop := (c.2.1 2 2 = 501 ∧ σ.2 30 2 = -1 ∧ ∀ l, l < 26 → (σ.2 31 l = 1 ↔ ¬ (c.2.1 3 l &&& c.1 11 = 0))) ∨ ∃ w, w ≤ at_ ∧ c.2.1 2 2 = Int32.ofNat w ∧ σ.2 30 2 = Int32.ofNat w
def frk (k : Nat) (σ : gm_S) (c : ck_S) : Prop := (c.2.1 2 k = 501 ∧ σ.2 30 k = -1) ∨ ∃ w, w ≤ 500 ∧ c.2.1 2 k = Int32.ofNat w ∧ σ.2 30 k = Int32.ofNat w
def QR (sz at_ dp lc tr pr pc sc pt : Nat) (σ : gm_S) (c : ck_S) : Prop := CW sz at_ dp lc tr pc sc c ∧ c.2.1 2 1 = 501 ∧ σ.1 3 = Int32.ofNat sz ∧ σ.1 27 = Int32.ofNat at_ ∧ (∀ i, i < sz → σ.2 4 i = c.2.1 1 i) ∧ σ.1 28 = Int32.ofNat dp ∧ σ.1 29 = Int32.ofNat lc ∧ σ.1 32 = Int32.ofNat tr ∧ (∀ i, i < tr → σ.2 33 i = c.2.1 4 i) ∧ (σ.1 10 = Int32.ofNat pr ∧ pr < 6 ∧ σ.2 17 pr = Int32.ofNat pc ∧ (c.2.1 2 4 = 501 → pc ≤ 30) ∧ ∀ i, i < pc → i < 30 → σ.2 18 (30 * pr + i) = c.2.1 5 i) ∧ σ.1 19 = Int32.ofNat pt ∧ fr2 at_ σ c ∧ frk 3 σ c ∧ frk 4 σ c ∧ (∀ l, l < 26 → (σ.2 31 l = 0 ↔ c.2.1 3 l &&& c.1 12 = 0))
def noF (c : ck_S) : Prop := c.2.1 2 2 = 501 ∧ c.2.1 2 3 = 501 ∧ c.2.1 2 4 = 501
def Gc (c : ck_S) : Nat → Bool := fun l => !decide (c.2.1 3 l &&& c.1 12 = 0)
def rW (σ σ' : gm_S) : Prop := (∀ j, j ≠ 27 → j ≠ 28 → j ≠ 29 → j ≠ 32 → j ≠ 19 → j ≠ 34 → j ≠ 35 → σ'.1 j = σ.1 j) ∧ (∀ j, j ≠ 30 → j ≠ 31 → j ≠ 33 → j ≠ 17 → j ≠ 18 → (j < 20 ∨ 26 < j) → σ'.2 j = σ.2 j)
def rU (pr pc pt tr : Nat) (σ σ' : gm_S) : Prop := rW σ σ' ∧ (∀ l, l < 26 → σ'.2 31 l = σ.2 31 l) ∧ (∀ i, i ≠ pr → σ'.2 17 i = σ.2 17 i) ∧ (∀ i, i < 30 * pr + pc → σ'.2 18 i = σ.2 18 i) ∧ (∀ j q, 20 ≤ j → j ≤ 26 → q < pt → σ'.2 j q = σ.2 j q) ∧ (∀ i, i < tr → σ'.2 33 i = σ.2 33 i)
theorem rW_rf {σ : gm_S} : rW σ σ := ⟨fun _ _ _ _ _ _ _ _ => rfl, fun _ _ _ _ _ _ _ => rfl⟩
theorem rW_tr {σ σ1 σ2 : gm_S} (h : rW σ σ1) (k : rW σ1 σ2) : rW σ σ2 := ⟨fun j a b c d e f g => (k.1 j a b c d e f g).trans (h.1 j a b c d e f g), fun j a b c d e f => (k.2 j a b c d e f).trans (h.2 j a b c d e f)⟩
theorem rU_tr {pr pc pt tr pc' pt' : Nat} {σ σ1 σ2 : gm_S} (h : rU pr pc pt tr σ σ1) (k : rU pr pc' pt' tr σ1 σ2) (hp : pc ≤ pc') (hq : pt ≤ pt') : rU pr pc pt tr σ σ2 := by
  obtain ⟨a1, a2, a3, a4, a5, a6⟩ := h
  obtain ⟨b1, b2, b3, b4, b5, b6⟩ := k
  exact ⟨rW_tr a1 b1, fun l hl => (b2 l hl).trans (a2 l hl), fun i hi => (b3 i hi).trans (a3 i hi), fun i hi => (b4 i (by omega)).trans (a4 i hi), fun j q h1 h2 h3 => (b5 j q h1 h2 (by omega)).trans (a5 j q h1 h2 h3), fun i hi => (b6 i hi).trans (a6 i hi)⟩
theorem rU_rf {pr pc pt tr : Nat} {σ : gm_S} : rU pr pc pt tr σ σ := ⟨rW_rf, fun _ _ => rfl, fun _ _ => rfl, fun _ _ => rfl, fun _ _ _ _ _ => rfl, fun _ _ => rfl⟩
section J1
variable {sz at_ dp lc tr pr pc sc pt : Nat} {σ : gm_S} {c : ck_S}
def sv (sz at_ : Nat) (σ : gm_S) : Int32 := if at_ < sz then σ.2 4 at_ else 0
theorem see_eq (h : QR sz at_ dp lc tr pr pc sc pt σ c) : sp_Md_see σ = some (sv sz at_ σ, σ) := by
  obtain ⟨h1, h2, h3, h4, _⟩ := h
  have hs : sz ≤ 500 := h1.2.1
  have ha : at_ ≤ sz := h1.2.2.2.1
  unfold sp_Md_see sv
  rw [h3, h4]
  by_cases hl : at_ < sz
  · rw [if_neg (fun e => by have := (le_N (by omega) (by omega)).mp e; omega), if_pos (gi_of (by omega : at_ < 500) (by decide)), cl_of (by omega), if_pos hl]
  · rw [if_pos ((le_N (by omega) (by omega)).mpr (by omega)), if_neg hl]
theorem sv_pk (h : QR sz at_ dp lc tr pr pc sc pt σ c) : (at_ < sz ∧ ∃ ch, 33 ≤ ch ∧ ch ≤ 126 ∧ sv sz at_ σ = Int32.ofNat ch ∧ pk sz at_ c = Int32.ofNat ch) ∨ (at_ = sz ∧ sv sz at_ σ = 0 ∧ pk sz at_ c = -1) := by
  obtain ⟨h1, h2, h3, h4, h5, _⟩ := h
  have ha : at_ ≤ sz := h1.2.2.2.1
  by_cases hl : at_ < sz
  · obtain ⟨ch, a1, a2, a3⟩ := h1.2.2.2.2.1 at_ hl
    refine Or.inl ⟨hl, ch, a1, a2, ?_, ?_⟩
    · unfold sv
      rw [if_pos hl, h5 at_ hl, a3]
    · unfold pk
      rw [if_pos h2, if_pos hl, a3]
  · refine Or.inr ⟨by omega, ?_, ?_⟩
    · unfold sv
      rw [if_neg hl]
    · unfold pk
      rw [if_pos h2, if_neg hl]
theorem sv_iff (h : QR sz at_ dp lc tr pr pc sc pt σ c) {x : Nat} (hx : 33 ≤ x) (hx2 : x ≤ 126) : (sv sz at_ σ = Int32.ofNat x ↔ pk sz at_ c = Int32.ofNat x) := by
  rcases sv_pk h with ⟨_, ch, c1, c2, c3, c4⟩ | ⟨_, c1, c2⟩
  · rw [c3, c4]
  · rw [c1, c2]
    constructor
    · intro e
      have := (eq_N (by decide) (by omega)).mp (show Int32.ofNat 0 = Int32.ofNat x from e)
      omega
    · intro e
      have h1 : (Int32.ofNat x).toInt = x := Int32.toInt_ofNat_of_lt (by omega)
      rw [← e, show (-1 : Int32).toInt = -1 from rfl] at h1
      omega
def mP (σ : gm_S) : gm_S := (upd σ.1 27 (σ.1 27 + 1), σ.2)
theorem QR_P (h : QR sz at_ dp lc tr pr pc sc pt σ c) (hl : at_ < sz) : QR sz (at_ + 1) dp lc tr pr pc sc pt (mP σ) (cP c) := by
  obtain ⟨h1, h2, h3, h4, h5, h6, h7, h8, h9, h10, h11, h12, h13, h14, h15⟩ := h
  refine ⟨CW_P h1 hl, h2, h3, ?_, h5, h6, h7, h8, h9, h10, h11, ?_, h13, h14, h15⟩
  · show upd σ.1 27 (σ.1 27 + 1) 27 = _
    rw [upd_eq, h4, ofN_s]
  · rcases h12 with e | ⟨w, w1, w2, w3⟩
    · exact Or.inl e
    · exact Or.inr ⟨w, by omega, w2, w3⟩
theorem rU_P : rU pr pc pt tr σ (mP σ) := ⟨⟨fun j h _ _ _ _ _ _ => upd_ne h, fun _ _ _ _ _ _ _ => rfl⟩, fun _ _ => rfl, fun _ _ => rfl, fun _ _ => rfl, fun _ _ _ _ _ => rfl, fun _ _ => rfl⟩
def mN (k w : Nat) (σ : gm_S) : gm_S := if σ.2 30 k = -1 then (σ.1, gm_up σ.2 30 (upd (σ.2 30) k (Int32.ofNat w))) else if σ.2 30 k ≤ Int32.ofNat w then σ else (σ.1, gm_up σ.2 30 (upd (σ.2 30) k (Int32.ofNat w)))
theorem mn_eq {k w : Nat} (hk : k < 5) : sp_Md_note (Int32.ofNat k) (Int32.ofNat w) σ = some (mN k w σ) := by
  unfold sp_Md_note mN
  rw [if_pos (gi_of hk (by decide)), cl_of (by omega)]
  by_cases h1 : σ.2 30 k = -1
  · rw [if_pos h1, if_pos h1]
  · rw [if_neg h1, if_neg h1]
    by_cases h2 : σ.2 30 k ≤ Int32.ofNat w
    · rw [if_pos h2, if_pos h2]
    · rw [if_neg h2, if_neg h2]
theorem mN_o {k w : Nat} : (mN k w σ).1 = σ.1 ∧ (∀ j, j ≠ 30 → (mN k w σ).2 j = σ.2 j) ∧ (∀ q, q ≠ k → (mN k w σ).2 30 q = σ.2 30 q) := by
  unfold mN
  by_cases h1 : σ.2 30 k = -1
  · rw [if_pos h1]
    exact ⟨rfl, fun j hj => if_neg hj, fun q hq => upd_ne hq⟩
  · rw [if_neg h1]
    by_cases h2 : σ.2 30 k ≤ Int32.ofNat w
    · rw [if_pos h2]
      exact ⟨rfl, fun _ _ => rfl, fun _ _ => rfl⟩
    · rw [if_neg h2]
      exact ⟨rfl, fun j hj => if_neg hj, fun q hq => upd_ne hq⟩
theorem rU_N {k w : Nat} : rU pr pc pt tr σ (mN k w σ) := by
  obtain ⟨a1, a2, a3⟩ := mN_o (σ := σ) (k := k) (w := w)
  refine ⟨⟨fun j _ _ _ _ _ _ _ => by rw [a1], fun j h _ _ _ _ _ => a2 j h⟩, fun l _ => by rw [a2 31 (by decide)], fun i _ => by rw [a2 17 (by decide)], fun i _ => by rw [a2 18 (by decide)], fun j q h1 h2 _ => by rw [a2 j (by omega)], fun i _ => by rw [a2 33 (by decide)]⟩
theorem mN_k {k w : Nat} (hw : w ≤ 500) : (σ.2 30 k = -1 → (mN k w σ).2 30 k = Int32.ofNat w) ∧ (∀ z, z ≤ 500 → σ.2 30 k = Int32.ofNat z → (mN k w σ).2 30 k = Int32.ofNat (min z w)) := by
  unfold mN
  constructor
  · intro h
    rw [if_pos h]
    show upd (σ.2 30) k (Int32.ofNat w) k = _
    rw [upd_eq]
  · intro z hz h
    have hn : ¬ (σ.2 30 k = -1) := by
      rw [h]
      intro e
      have h1 : (Int32.ofNat z).toInt = z := Int32.toInt_ofNat_of_lt (by omega)
      rw [e, show (-1 : Int32).toInt = -1 from rfl] at h1
      omega
    rw [if_neg hn, h]
    by_cases hle : z ≤ w
    · rw [if_pos ((le_N (by omega) (by omega)).mpr hle), Nat.min_eq_left hle]
      exact h
    · rw [if_neg (fun e => hle ((le_N (by omega) (by omega)).mp e)), Nat.min_eq_right (by omega)]
      show upd (σ.2 30) k (Int32.ofNat w) k = _
      rw [upd_eq]
theorem cN_k {k w : Nat} (hw : w ≤ 500) : (c.2.1 2 k = 501 → (cN k w c).2.1 2 k = Int32.ofNat w) ∧ (∀ z, z ≤ 500 → c.2.1 2 k = Int32.ofNat z → (cN k w c).2.1 2 k = Int32.ofNat (min z w)) := by
  have he : (cN k w c).2.1 2 k = q_min (c.2.1 2 k) (Int32.ofNat w) := by
    show upd (c.2.1 2) k _ k = _
    rw [upd_eq]
  rw [he]
  constructor
  · intro h
    obtain ⟨v, _, v2, _, v4, _⟩ := mn_w (f := c.2.1 2 k) hw (Or.inl h)
    rw [v2, v4 h]
  · intro z hz h
    obtain ⟨v, _, v2, _, _, v5⟩ := mn_w (f := c.2.1 2 k) hw (Or.inr ⟨z, hz, h⟩)
    rw [v2, v5 z hz h]
theorem QR_N {k w : Nat} (hk : 2 ≤ k) (hk4 : k ≤ 4) (hw : w ≤ 500) (hw2 : k = 2 → w ≤ at_) (h : QR sz at_ dp lc tr pr pc sc pt σ c) : QR sz at_ dp lc tr pr pc sc pt (mN k w σ) (cN k w c) := by
  have hCW := CW_N hk hk4 hw h.1
  obtain ⟨h1, h2, h3, h4, h5, h6, h7, h8, h9, h10, h11, h12, h13, h14, h15⟩ := h
  obtain ⟨a1, a2, a3⟩ := mN_o (σ := σ) (k := k) (w := w)
  obtain ⟨m1, m2⟩ := mN_k (σ := σ) (k := k) hw
  obtain ⟨n1, n2⟩ := cN_k (c := c) (k := k) hw
  have hs : sz ≤ 500 := h1.2.1
  have ha : at_ ≤ sz := h1.2.2.2.1
  have c3 : (cN k w c).2.1 3 = c.2.1 3 := rfl
  have cne : ∀ q, q ≠ k → (cN k w c).2.1 2 q = c.2.1 2 q := fun q hq => upd_ne hq
  have gen : ∀ j, 3 ≤ j → j ≤ 4 → frk j σ c → frk j (mN k w σ) (cN k w c) := by
    intro j j3 j4 hf
    by_cases hj : j = k
    · subst hj
      rcases hf with ⟨e1, e2⟩ | ⟨z, z1, z2, z3⟩
      · exact Or.inr ⟨w, hw, n1 e1, m1 e2⟩
      · exact Or.inr ⟨min z w, by omega, n2 z z1 z2, m2 z z1 z3⟩
    · unfold frk
      rw [cne j hj, a3 j hj]
      exact hf
  refine ⟨hCW.1, by rw [hCW.2.1]; exact h2, by rw [a1]; exact h3, by rw [a1]; exact h4, by rw [a2 4 (by decide)]; exact h5, by rw [a1]; exact h6, by rw [a1]; exact h7, by rw [a1]; exact h8, by rw [a2 33 (by decide)]; exact h9, by rw [a1, a2 17 (by decide), a2 18 (by decide)]; exact ⟨h10.1, h10.2.1, h10.2.2.1, fun e => h10.2.2.2.1 (by
    by_cases hk4' : k = 4
    · subst hk4'; exact absurd e hCW.2.2
    · rw [← cne 4 (fun e' => hk4' e'.symm)]; exact e), h10.2.2.2.2⟩, by rw [a1]; exact h11, ?_, gen 3 (by omega) (by omega) h13, gen 4 (by omega) (by omega) h14, by rw [a2 31 (by decide)]; exact h15⟩
  by_cases hk2 : k = 2
  · subst hk2
    rcases h12 with ⟨e1, e2, _⟩ | ⟨z, z1, z2, z3⟩
    · exact Or.inr ⟨w, hw2 rfl, n1 e1, m1 e2⟩
    · exact Or.inr ⟨min z w, by omega, n2 z (by omega) z2, m2 z (by omega) z3⟩
  · unfold fr2
    rw [cne 2 (fun e => hk2 e.symm), a3 2 (fun e => hk2 e.symm), a2 31 (by decide)]
    exact h12
theorem QR_Nc {w : Nat} (hw : w ≤ 500) (h : QR sz at_ dp lc tr pr pc sc pt σ c) (hf : c.2.1 2 2 ≠ 501) (hwa : ∀ z, z ≤ at_ → c.2.1 2 2 = Int32.ofNat z → z ≤ w) : QR sz at_ dp lc tr pr pc sc pt σ (cN 2 w c) := by
  have hCW := CW_N (k := 2) (by decide) (by decide) hw h.1
  obtain ⟨h1, h2, h3, h4, h5, h6, h7, h8, h9, h10, h11, h12, h13, h14, h15⟩ := h
  obtain ⟨n1, n2⟩ := cN_k (c := c) (k := 2) hw
  have hs : sz ≤ 500 := h1.2.1
  have ha : at_ ≤ sz := h1.2.2.2.1
  refine ⟨hCW.1, by rw [hCW.2.1]; exact h2, h3, h4, h5, h6, h7, h8, h9, h10, h11, ?_, h13, h14, h15⟩
  rcases h12 with ⟨e1, _⟩ | ⟨z, z1, z2, z3⟩
  · exact absurd e1 hf
  · refine Or.inr ⟨z, z1, ?_, z3⟩
    rw [n2 z (by omega) z2, Nat.min_eq_left (hwa z z1 z2)]
end J1
