section H4
variable {sz at_ dp lc tr pr pc sc pt ni no : Nat} {li lo : Nat → Nat} {σ : gm_S} {c : ck_S}
theorem mNP {k w : Nat} : mP (mN k w σ) = mN k w (mP σ) := by
  unfold mN
  have e : (mP σ).2 = σ.2 := rfl
  rw [e]
  by_cases h1 : σ.2 30 k = -1
  · rw [if_pos h1, if_pos h1]; rfl
  · rw [if_neg h1, if_neg h1]
    by_cases h2 : σ.2 30 k ≤ Int32.ofNat w
    · rw [if_pos h2, if_pos h2]
    · rw [if_neg h2, if_neg h2]; rfl
theorem HB_m {σ' : gm_S} (h1 : σ'.1 = σ.1) (h4 : σ'.2 4 = σ.2 4) (h17 : σ'.2 17 = σ.2 17) (h30 : σ'.2 30 = σ.2 30) (h : HB sz at_ pr pt sc σ c) : HB sz at_ pr pt sc σ' c := by
  unfold HB AL fw frk at h ⊢
  rw [h1, h4, h17, h30]
  exact h
theorem HB_cc {c' : ck_S} {sc' : Nat} (hw : CW sz at_ 0 0 0 0 sc' c') (h1 : c'.2.1 1 = c.2.1 1) (h2 : c'.2.1 2 = c.2.1 2) (h : HB sz at_ pr pt sc σ c) : HB sz at_ pr pt sc' σ c' := by
  obtain ⟨_, ⟨a1, a2, a3, a4, a5⟩, h3, h4, h5, h6, h7, h8, h9, h10⟩ := h
  exact ⟨hw, ⟨CW_T hw, by rw [h2]; exact a2, a3, a4, by rw [h1]; exact a5⟩, h3, h4, h5, h6, h7, fw_c rfl (by rw [h2]) h8, frk_c rfl (by rw [h2]) h9, frk_c rfl (by rw [h2]) h10⟩
theorem HL_told (hw : CW sz at_ 0 0 0 0 (ni + no) c) (h : HL pr ni no li lo σ c) {l : Nat} (hl : l < 26) : (c.2.1 3 l &&& c.1 12 = 0 ↔ c.2.1 3 l = 0) ∧ c.1 12 ||| c.2.1 3 l = c.1 12 := by
  obtain ⟨_, _, hb, _⟩ := h
  have h26 := CS_26 hw.2.2.2.2.2.2.2.2.2.2.2.2.2.2
  obtain ⟨_, _, _, _, ix, s5, _⟩ := hw.2.2.2.2.2.2.2.2.2.2.2.2.2.2
  constructor
  · constructor
    · intro e
      by_cases h0 : c.2.1 3 l = 0
      · exact h0
      · obtain ⟨a1, a2⟩ := s5 l hl h0
        have := bt_az.mp e (ix l) (by rw [a1, bt_p2 (by omega)]; simp)
        rw [hb] at this
        simp at this
        omega
    · intro e
      rw [e]
      exact and_0
  · apply bt_ext
    intro i _
    rw [bt_or, hb]
    by_cases h0 : c.2.1 3 l = 0
    · rw [h0, bt_0, Bool.or_false]
    · obtain ⟨a1, a2⟩ := s5 l hl h0
      rw [a1, bt_p2 (by omega)]
      by_cases hi : i = ix l
      · have : i < ni + no := by omega
        simp [this]
      · simp [hi]
def HS (v : Int32) (sz at_ pr pt ni no : Nat) (σ : gm_S) (c : ck_S) (at' ni' no' : Nat) (li' lo' : Nat → Nat) (σ' : gm_S) (c' : ck_S) : Prop := HB sz at' pr pt (ni' + no') σ' c' ∧ HL pr ni' no' li' lo' σ' c' ∧ rH pr pt σ σ' ∧ TF c c' ∧ c'.2.2 = c.2.2 ∧ c'.1 11 = c.1 11 ∧ (v = 1 → no' = no) ∧ (v = 2 → ni' = ni) ∧ no ≤ no' ∧ at_ ≤ at' ∧ c'.1 9 = c.1 9 ∧ σ'.2 11 = σ.2 11 ∧ (∀ j, 16 ≤ j → j ≤ 26 → σ'.2 j = σ.2 j) ∧ σ'.2 49 = σ.2 49 ∧ (c'.2.1 2 2 = 501 → v = 2 → at_ < at' → no < no')
theorem rV_P : rV σ (mP σ) := ⟨fun _ h _ _ _ _ _ _ _ => upd_ne h, fun _ _ _ _ _ _ => rfl, rfl⟩
theorem tell_o {l : Nat} {v : Int32} (hl : l < 26) (hlt : at_ < sz) (h : HB sz at_ pr pt (ni + no) σ c) (hL : HL pr ni no li lo σ c) (hsv : sv sz at_ σ = Int32.ofNat (l + 97)) (hpk : pk sz at_ c = Int32.ofNat (l + 97)) (h0 : ¬ (σ.2 31 l = 0)) : ∃ c1 s, sp_Md_tell v σ = some (mN 2 at_ (mP σ)) ∧ sp_Rd_readNewSignal c = some (s, c1) ∧ HS v sz at_ pr pt ni no σ c (at_ + 1) ni no li lo (mN 2 at_ (mP σ)) (upd c1.1 12 (c.1 12 ||| s), c1.2) := by
  have hs : sz ≤ 500 := h.1.2.1
  have hA := h.2.1
  obtain ⟨t1, t2⟩ := HL_told h.1 hL hl
  have c0 : ¬ (c.2.1 3 l = 0) := fun e => h0 ((hL.2.2.2.2.2.2 l hl).mpr e)
  have hz : ¬ (c.2.1 3 l &&& c.1 12 = 0) := fun e => c0 (t1.mp e)
  have hn := (newS_eq h.1).2 l hl hlt hA.2.1 hpk
  rw [if_neg hz] at hn
  refine ⟨_, _, ?_, hn, ?_⟩
  · have h27 : σ.1 27 = Int32.ofNat at_ := hA.2.2.2.1
    have m2 : sp_Md_note 2 (σ.1 27) σ = some (mN 2 at_ σ) := by rw [h27]; exact mn_eq (k := 2) (by decide)
    obtain ⟨o1, o2, o3⟩ := mN_o (σ := σ) (k := 2) (w := at_)
    unfold sp_Md_tell
    rw [see_a hA]
    simp only
    rw [hsv, (sub97 hl).1, if_pos (gi_of hl (by decide)), cl_of (by omega), if_neg h0, m2]
    simp only
    rw [if_neg (by rw [o2 31 (by decide)]; exact h0), upd_self, gm_upI, ← mNP]
    rfl
  · have hq := HB_N (HB_P h hlt) (w := at_) (by omega)
    obtain ⟨o1, o2, o3⟩ := mN_o (σ := mP σ) (k := 2) (w := at_)
    have e12 : (upd (cN 2 at_ (cP c)).1 12 (c.1 12 ||| c.2.1 3 l), (cN 2 at_ (cP c)).2) = cN 2 at_ (cP c) := by
      rw [t2]
      show (upd (cP c).1 12 ((cP c).1 12), _) = _
      rw [upd_self]
      rfl
    rw [e12]
    have hN := CW_N (k := 2) (w := at_) (by decide) (by decide) (by omega) (CW_P h.1 hlt)
    have hP := CV_P h.1 hlt hA.2.1
    have o2' : ∀ j, j ≠ 30 → (mN 2 at_ (mP σ)).2 j = σ.2 j := fun j hj => o2 j hj
    refine ⟨hq, ?_, ?_, TF_tr (TF_v hP) (TF_v (CV_N (by decide) (by decide) (by omega) hP.1)), rfl, rfl, fun _ => rfl, fun _ => rfl, Nat.le_refl _, by omega, rfl, o2' 11 (by decide), fun j _ _ => o2' j (by omega), o2' 49 (by decide), fun e => absurd e hN.2.2⟩
    · obtain ⟨x1, x2, x3, x4, x5, x6, x7⟩ := hL
      refine ⟨?_, ?_, x3, ?_, ?_, ?_, ?_⟩
      · rw [o2' 12 (by decide)]; exact x1
      · rw [o2' 14 (by decide)]; exact x2
      · rw [o2' 13 (by decide), o2' 31 (by decide)]; exact x4
      · rw [o2' 15 (by decide), o2' 31 (by decide)]; exact x5
      · rw [o2' 31 (by decide)]; exact x6
      · rw [o2' 31 (by decide)]; exact x7
    · exact rH_U (rU_tr (pc := 0) (tr := 0) rU_P rU_N (Nat.le_refl _) (Nat.le_refl _))
def t1S (l pr n : Nat) (σ : gm_S) : gm_S := (upd σ.1 27 (σ.1 27 + 1), gm_up (gm_up (gm_up σ.2 13 (upd (σ.2 13) (26 * pr + n) (Int32.ofNat l))) 12 (upd (σ.2 12) pr (Int32.ofNat (n + 1)))) 31 (upd (σ.2 31) l 1))
def t2S (l pr n : Nat) (σ : gm_S) : gm_S := (upd σ.1 27 (σ.1 27 + 1), gm_up (gm_up (gm_up σ.2 15 (upd (σ.2 15) (26 * pr + n) (Int32.ofNat l))) 14 (upd (σ.2 14) pr (Int32.ofNat (n + 1)))) 31 (upd (σ.2 31) l 2))
theorem bt_app {x : Int32} {k : Nat} (hk : k < 32) (h : ∀ q, bt x q = decide (q < k)) : ∀ q, bt (x ||| ((1 : Int32) <<< (Int32.ofNat k &&& 31))) q = decide (q < k + 1) := by
  intro q
  rw [bt_or, h, bt_p2 hk]
  by_cases h1 : q < k
  · have : q < k + 1 := by omega
    simp [h1, this]
  · by_cases h2 : q = k
    · subst h2; simp
    · have : ¬ (q < k + 1) := by omega
      simp [h1, h2, this]
theorem new_c {l : Nat} (hl : l < 26) (hlt : at_ < sz) (h : HB sz at_ pr pt (ni + no) σ c) (hL : HL pr ni no li lo σ c) (hpk : pk sz at_ c = Int32.ofNat (l + 97)) (h0 : c.2.1 3 l = 0) : ∃ c', c' = (upd (cG l (ni + no) (cP c)).1 12 (c.1 12 ||| ((1 : Int32) <<< (Int32.ofNat (ni + no) &&& 31))), (cG l (ni + no) (cP c)).2) ∧ sp_Rd_readNewSignal c = some ((1 : Int32) <<< (Int32.ofNat (ni + no) &&& 31), cG l (ni + no) (cP c)) ∧ CW sz (at_ + 1) 0 0 0 0 (ni + no + 1) c' ∧ TF c c' ∧ c'.2.2 = c.2.2 ∧ c'.1 11 = c.1 11 ∧ c'.1 9 = c.1 9 ∧ c'.2.1 1 = c.2.1 1 ∧ c'.2.1 2 = c.2.1 2 ∧ (∀ q, bt (c'.1 12) q = decide (q < ni + no + 1)) ∧ c'.2.1 3 = upd (c.2.1 3) l ((1 : Int32) <<< (Int32.ofNat (ni + no) &&& 31)) ∧ ni + no < 26 := by
  have hA := h.2.1
  obtain ⟨t1, t2⟩ := HL_told h.1 hL hl
  have hn := (newS_eq h.1).2 l hl hlt hA.2.1 hpk
  rw [if_pos (t1.mpr h0), if_pos h0] at hn
  have hP := CV_P h.1 hlt hA.2.1
  obtain ⟨g1, g2⟩ := CW_G (c := cP c) hl hP.1 h0
  have hb : ∀ q, bt (c.1 12 ||| ((1 : Int32) <<< (Int32.ofNat (ni + no) &&& 31))) q = decide (q < ni + no + 1) := bt_app (by omega) hL.2.2.1
  refine ⟨_, rfl, hn, CW_12 (fun q hq => by rw [hb] at hq; exact of_decide_eq_true hq) g1.1, TF_tr (TF_v (CV_tr hP g1)) (TF_w (by decide) (by decide)), rfl, rfl, rfl, rfl, rfl, ?_, rfl, g2⟩
  exact hb
theorem tell_1 {l : Nat} (hl : l < 26) (hlt : at_ < sz) (h : HB sz at_ pr pt (ni + 0) σ c) (hL : HL pr ni 0 li lo σ c) (hsv : sv sz at_ σ = Int32.ofNat (l + 97)) (hpk : pk sz at_ c = Int32.ofNat (l + 97)) (h0 : σ.2 31 l = 0) : ∃ c1 s, sp_Md_tell 1 σ = some (t1S l pr ni σ) ∧ sp_Rd_readNewSignal c = some (s, c1) ∧ HS 1 sz at_ pr pt ni 0 σ c (at_ + 1) (ni + 1) 0 (fun i => if i = ni then l else li i) lo (t1S l pr ni σ) (upd c1.1 12 (c.1 12 ||| s), c1.2) := by
  have hA := h.2.1
  have z0 : c.2.1 3 l = 0 := (hL.2.2.2.2.2.2 l hl).mp h0
  obtain ⟨c', d1, d2, d3, d4, d5, d6, d7, d8, d9, d10, d11, d12⟩ := new_c hl hlt h hL hpk z0
  refine ⟨_, _, ?_, d2, ?_⟩
  · have h10 : σ.1 10 = Int32.ofNat pr := h.2.2.2.2.2.1.1
    have hp6 : pr < 6 := h.2.2.2.2.2.1.2.1
    unfold sp_Md_tell
    rw [see_a hA]
    simp only
    rw [hsv, (sub97 hl).1, if_pos (gi_of hl (by decide)), cl_of (by omega), if_pos h0, if_pos trivial, h10, if_pos (gi_of (by omega) (by decide)), cl_of (by omega), hL.1]
    rw [show (26 : Int32) = Int32.ofNat 26 from rfl, ofN_mul, ofN_add, if_pos (gi_of (by omega) (by decide)), cl_of (by omega), ofN_s]
    rfl
  · rw [← d1]
    have hq : HB sz (at_ + 1) pr pt (ni + 1 + 0) (t1S l pr ni σ) c' := HB_cc (c := cP c) (by rw [show ni + 1 + 0 = ni + 0 + 1 by omega]; exact d3) d8 d9 (HB_m (σ := mP σ) rfl rfl rfl rfl (HB_P h hlt))
    obtain ⟨x1, x2, x3, x4, x5, x6, x7⟩ := hL
    have e13 : ∀ i, (t1S l pr ni σ).2 13 i = upd (σ.2 13) (26 * pr + ni) (Int32.ofNat l) i := fun i => rfl
    have e31 : ∀ i, (t1S l pr ni σ).2 31 i = upd (σ.2 31) l 1 i := fun i => rfl
    have e12 : ∀ i, (t1S l pr ni σ).2 12 i = upd (σ.2 12) pr (Int32.ofNat (ni + 1)) i := fun i => rfl
    have eo : ∀ j, j ≠ 13 → j ≠ 12 → j ≠ 31 → (t1S l pr ni σ).2 j = σ.2 j := fun j a b d => by
      show gm_up (gm_up (gm_up _ _ _) _ _) _ _ j = _
      unfold gm_up
      rw [if_neg d, if_neg b, if_neg a]
    refine ⟨hq, ⟨?_, x2, fun q => ?_, fun i hi => ?_, fun i hi => absurd hi (by omega), fun l' hl' hne => ?_, fun l' hl' => ?_⟩, ⟨⟨fun j a _ _ _ _ _ _ _ => upd_ne a, fun j a b1 b2 b3 b4 => eo j (by omega) (by omega) b2, rfl⟩, fun i hi => ⟨rfl, by rw [e12, upd_ne (by omega)], rfl, rfl, rfl⟩, fun i _ => rfl, fun i hi => ⟨by rw [e13, upd_ne (by omega)], rfl⟩, fun i _ => rfl, fun j q a b _ => by rw [eo j (by omega) (by omega) (by omega)]⟩, d4, d5, d6, fun _ => rfl, fun e => absurd e (by decide), Nat.le_refl _, by omega, d7, rfl, fun j a b => eo j (by omega) (by omega) (by omega), rfl, fun _ e => absurd e (by decide)⟩
    · rw [e12, upd_eq]
    · exact (d10 q).trans (decide_eq_decide.mpr (by omega))
    · show _ = Int32.ofNat (if i = ni then l else li i) ∧ (if i = ni then l else li i) < 26 ∧ c'.2.1 3 (if i = ni then l else li i) = _ ∧ (t1S l pr ni σ).2 31 (if i = ni then l else li i) = 1
      rw [e13, d11, e31]
      by_cases hi' : i = ni
      · rw [if_pos hi', hi', upd_eq, upd_eq, upd_eq]
        exact ⟨rfl, hl, rfl, rfl⟩
      · obtain ⟨y1, y2, y3, y4⟩ := x4 i (by omega)
        have hne : li i ≠ l := fun e => by rw [e, h0] at y4; exact absurd y4 (by decide)
        rw [if_neg hi', upd_ne (by omega), upd_ne hne, upd_ne hne]
        exact ⟨y1, y2, y3, y4⟩
    · rw [e31] at hne
      by_cases e : l' = l
      · exact Or.inl ⟨ni, by omega, (if_pos rfl).trans e.symm⟩
      · rw [upd_ne e] at hne
        rcases x6 l' hl' hne with ⟨i, i1, i2⟩ | ⟨i, i1, i2⟩
        · exact Or.inl ⟨i, by omega, (if_neg (by omega)).trans i2⟩
        · omega
    · rw [e31, d11]
      by_cases e : l' = l
      · rw [e, upd_eq, upd_eq]
        exact ⟨fun e => absurd e (by decide), fun e => absurd e (p2_nz (by omega))⟩
      · rw [upd_ne e, upd_ne e]
        exact x7 l' hl'
theorem tell_2 {l : Nat} (hl : l < 26) (hlt : at_ < sz) (h : HB sz at_ pr pt (ni + no) σ c) (hL : HL pr ni no li lo σ c) (hsv : sv sz at_ σ = Int32.ofNat (l + 97)) (hpk : pk sz at_ c = Int32.ofNat (l + 97)) (h0 : σ.2 31 l = 0) : ∃ c1 s, sp_Md_tell 2 σ = some (t2S l pr no σ) ∧ sp_Rd_readNewSignal c = some (s, c1) ∧ HS 2 sz at_ pr pt ni no σ c (at_ + 1) ni (no + 1) li (fun i => if i = no then l else lo i) (t2S l pr no σ) (upd c1.1 12 (c.1 12 ||| s), c1.2) := by
  have hA := h.2.1
  have z0 : c.2.1 3 l = 0 := (hL.2.2.2.2.2.2 l hl).mp h0
  obtain ⟨c', d1, d2, d3, d4, d5, d6, d7, d8, d9, d10, d11, d12⟩ := new_c hl hlt h hL hpk z0
  refine ⟨_, _, ?_, d2, ?_⟩
  · have h10 : σ.1 10 = Int32.ofNat pr := h.2.2.2.2.2.1.1
    have hp6 : pr < 6 := h.2.2.2.2.2.1.2.1
    unfold sp_Md_tell
    rw [see_a hA]
    simp only
    rw [hsv, (sub97 hl).1, if_pos (gi_of hl (by decide)), cl_of (by omega), if_pos h0, if_neg (by decide), h10, if_pos (gi_of (by omega) (by decide)), cl_of (by omega), hL.2.1]
    rw [show (26 : Int32) = Int32.ofNat 26 from rfl, ofN_mul, ofN_add, if_pos (gi_of (by omega) (by decide)), cl_of (by omega), ofN_s]
    rfl
  · rw [← d1]
    have hq : HB sz (at_ + 1) pr pt (ni + (no + 1)) (t2S l pr no σ) c' := HB_cc (c := cP c) d3 d8 d9 (HB_m (σ := mP σ) rfl rfl rfl rfl (HB_P h hlt))
    obtain ⟨x1, x2, x3, x4, x5, x6, x7⟩ := hL
    have e15 : ∀ i, (t2S l pr no σ).2 15 i = upd (σ.2 15) (26 * pr + no) (Int32.ofNat l) i := fun i => rfl
    have e31 : ∀ i, (t2S l pr no σ).2 31 i = upd (σ.2 31) l 2 i := fun i => rfl
    have e14 : ∀ i, (t2S l pr no σ).2 14 i = upd (σ.2 14) pr (Int32.ofNat (no + 1)) i := fun i => rfl
    have eo : ∀ j, j ≠ 15 → j ≠ 14 → j ≠ 31 → (t2S l pr no σ).2 j = σ.2 j := fun j a b d => by
      show gm_up (gm_up (gm_up _ _ _) _ _) _ _ j = _
      unfold gm_up
      rw [if_neg d, if_neg b, if_neg a]
    refine ⟨hq, ⟨x1, ?_, fun q => ?_, fun i hi => ?_, fun i hi => ?_, fun l' hl' hne => ?_, fun l' hl' => ?_⟩, ⟨⟨fun j a _ _ _ _ _ _ _ => upd_ne a, fun j a b1 b2 b3 b4 => eo j (by omega) (by omega) b2, rfl⟩, fun i hi => ⟨rfl, rfl, by rw [e14, upd_ne (by omega)], rfl, rfl⟩, fun i _ => rfl, fun i hi => ⟨rfl, by rw [e15, upd_ne (by omega)]⟩, fun i _ => rfl, fun j q a b _ => by rw [eo j (by omega) (by omega) (by omega)]⟩, d4, d5, d6, fun e => absurd e (by decide), fun _ => rfl, by omega, by omega, d7, rfl, fun j a b => eo j (by omega) (by omega) (by omega), rfl, fun _ _ _ => by omega⟩
    · rw [e14, upd_eq]
    · exact (d10 q).trans (decide_eq_decide.mpr (by omega))
    · rw [eo 13 (by decide) (by decide) (by decide), d11, e31]
      obtain ⟨y1, y2, y3, y4⟩ := x4 i hi
      have hne : li i ≠ l := fun e => by rw [e, h0] at y4; exact absurd y4 (by decide)
      rw [upd_ne hne, upd_ne hne]
      exact ⟨y1, y2, y3, y4⟩
    · show _ = Int32.ofNat (if i = no then l else lo i) ∧ (if i = no then l else lo i) < 26 ∧ c'.2.1 3 (if i = no then l else lo i) = _ ∧ (t2S l pr no σ).2 31 (if i = no then l else lo i) = 2
      rw [e15, d11, e31]
      by_cases hi' : i = no
      · rw [if_pos hi', hi', upd_eq, upd_eq, upd_eq]
        exact ⟨rfl, hl, rfl, rfl⟩
      · obtain ⟨y1, y2, y3, y4⟩ := x5 i (by omega)
        have hne : lo i ≠ l := fun e => by rw [e, h0] at y4; exact absurd y4 (by decide)
        rw [if_neg hi', upd_ne (by omega), upd_ne hne, upd_ne hne]
        exact ⟨y1, y2, y3, y4⟩
    · rw [e31] at hne
      by_cases e : l' = l
      · exact Or.inr ⟨no, by omega, (if_pos rfl).trans e.symm⟩
      · rw [upd_ne e] at hne
        rcases x6 l' hl' hne with ⟨i, i1, i2⟩ | ⟨i, i1, i2⟩
        · exact Or.inl ⟨i, i1, i2⟩
        · exact Or.inr ⟨i, by omega, (if_neg (by omega)).trans i2⟩
    · rw [e31, d11]
      by_cases e : l' = l
      · rw [e, upd_eq, upd_eq]
        exact ⟨fun e => absurd e (by decide), fun e => absurd e (p2_nz (by omega))⟩
      · rw [upd_ne e, upd_ne e]
        exact x7 l' hl'
end H4
