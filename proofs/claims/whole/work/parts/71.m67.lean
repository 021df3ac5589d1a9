section J20
variable {sz at_ dp lc tr pr pc sc pt n : Nat} {σ : gm_S} {c : ck_S} {f : gm_S → Option (Int32 × gm_S)} {g : ck_S → Option (Option Nat × ck_S)}
theorem CS_26 (h : CS sc c) : sc ≤ 26 := by have := h.2.1; omega
theorem bits_dj (h : CS sc c) {l l' : Nat} (hl : l < 26) (hl' : l' < 26) (hne : l ≠ l') : c.2.1 3 l &&& c.2.1 3 l' = 0 := by
  have h26 := CS_26 h
  obtain ⟨_, _, _, _, ix, s5, s6, _⟩ := h
  apply bt_az.mpr
  intro q hq
  cases hb : bt (c.2.1 3 l') q
  · rfl
  · exfalso
    have n1 : c.2.1 3 l ≠ 0 := fun e => by rw [e, bt_0] at hq; cases hq
    have n2 : c.2.1 3 l' ≠ 0 := fun e => by rw [e, bt_0] at hb; cases hb
    obtain ⟨a1, a2⟩ := s5 l hl n1
    obtain ⟨b1, b2⟩ := s5 l' hl' n2
    rw [a1, bt_p2 (by omega)] at hq
    rw [b1, bt_p2 (by omega)] at hb
    have e1 := of_decide_eq_true hq
    have e2 := of_decide_eq_true hb
    exact hne (s6 l l' hl hl' n1 n2 (by omega))
theorem msk_eq {M : Int32} {c1 : ck_S} {at1 pc1 sc1 : Nat} (hM : ∀ q, bt M q = true → q < sc) (hcv : CV sz at_ dp lc tr pc sc c c1 at1 pc1 sc1) (hW : CW sz at_ dp lc tr pc sc c) : ∀ l, l < 26 → (c1.2.1 3 l &&& M = 0 ↔ c.2.1 3 l &&& M = 0) := by
  intro l hl
  by_cases h0 : c.2.1 3 l = 0
  · have hz : c.2.1 3 l &&& M = 0 := by rw [h0]; exact and_0
    have hz' : c1.2.1 3 l &&& M = 0 := by
      apply bt_az.mpr
      intro q hq
      cases hb : bt M q
      · rfl
      · exfalso
        obtain ⟨_, _, _, _, ix, s5, _, s7⟩ := hW.2.2.2.2.2.2.2.2.2.2.2.2.2.2
        have hqs := hM q hb
        obtain ⟨l0, t1, t2, t3⟩ := s7 q hqs
        obtain ⟨_, z2, _, _, ix', s5', s6', _⟩ := hcv.1.2.2.2.2.2.2.2.2.2.2.2.2.2.2
        have e0 : c1.2.1 3 l0 = c.2.1 3 l0 := hcv.2.2.2.2.1.2.2.2.2.1 l0 t1 t2
        have hl0 : c1.2.1 3 l ≠ 0 := fun e => by rw [e, bt_0] at hq; cases hq
        have hl00 : c1.2.1 3 l0 ≠ 0 := by rw [e0]; exact t2
        obtain ⟨w1, w2⟩ := s5' l hl hl0
        obtain ⟨w3, w4⟩ := s5' l0 t1 hl00
        have hsc : sc1 ≤ 26 := by omega
        rw [w1, bt_p2 (by omega)] at hq
        have hq' := of_decide_eq_true hq
        obtain ⟨w5, w6⟩ := s5 l0 t1 t2
        have hsc0 : sc ≤ 26 := by have := hcv.2.2.2.1; omega
        have hbit : bt (c1.2.1 3 l0) q = true := by rw [e0, w5, t3, bt_p2 (by omega)]; simp
        rw [w3, bt_p2 (by omega)] at hbit
        have hq'' := of_decide_eq_true hbit
        have := s6' l l0 hl t1 hl0 hl00 (by omega)
        rw [this] at h0
        exact t2 h0
    rw [hz, hz']
  · rw [hcv.2.2.2.2.1.2.2.2.2.1 l hl h0]
theorem QR_G {l : Nat} (hl : l < 26) (h : QR sz at_ dp lc tr pr pc sc pt σ c) (h0 : c.2.1 3 l = 0) : QR sz at_ dp lc tr pr pc (sc + 1) pt σ (cG l sc c) := by
  have hG := CW_G hl h.1 h0
  have hCS := h.1.2.2.2.2.2.2.2.2.2.2.2.2.2.2
  have m11 := msk_eq (M := c.1 11) hCS.2.2.2.1 hG.1 h.1
  have m12 := msk_eq (M := c.1 12) hCS.2.2.1 hG.1 h.1
  obtain ⟨q1, q2, q3, q4, q5, q6, q7, q8, q9, q10, q11, q12, q13, q14, q15⟩ := h
  refine ⟨hG.1.1, q2, q3, q4, q5, q6, q7, q8, q9, q10, q11, ?_, q13, q14, fun l' hl' => (q15 l' hl').trans (m12 l' hl').symm⟩
  rcases q12 with ⟨e1, e2, e3⟩ | e
  · exact Or.inl ⟨e1, e2, fun l' hl' => (e3 l' hl').trans (not_congr (m11 l' hl').symm)⟩
  · exact Or.inr e
theorem and_or {x y z : Int32} (h : x &&& z = 0) : (x &&& (y ||| z) = 0 ↔ x &&& y = 0) := by
  rw [bt_az, bt_az]
  rw [bt_az] at h
  constructor
  · intro k i hi
    have := k i hi
    rw [bt_or] at this
    cases hb : bt y i
    · rfl
    · rw [hb] at this
      simp at this
  · intro k i hi
    rw [bt_or, k i hi, h i hi]
    rfl
theorem and_self_or {x y : Int32} (hx : x ≠ 0) : x &&& (y ||| x) ≠ 0 := fun e => by
  obtain ⟨i, _, hi⟩ := bt_nz hx
  have := bt_az.mp e i hi
  rw [bt_or, hi] at this
  simp at this
theorem QR_L {l : Nat} (hl : l < 26) (hlc : lc ≤ 13) (h : QR sz at_ dp lc tr pr pc sc pt σ c) (hne : c.2.1 3 l ≠ 0) (hq : c.2.1 3 l &&& c.1 12 = 0 ∨ c.2.1 2 2 ≠ 501) : QR sz at_ dp (lc + 1) tr pr pc sc pt (upd σ.1 29 (Int32.ofNat (lc + 1)), gm_up σ.2 31 (upd (σ.2 31) l 3)) (upd (upd c.1 12 (c.1 12 ||| c.2.1 3 l)) 15 (Int32.ofNat (lc + 1)), c.2) := by
  have hCS := h.1.2.2.2.2.2.2.2.2.2.2.2.2.2.2
  have h26 := CS_26 hCS
  have hb : ∀ q, bt (c.2.1 3 l) q = true → q < sc := by
    intro q hq
    obtain ⟨_, _, _, _, ix, s5, _, _⟩ := hCS
    obtain ⟨a1, a2⟩ := s5 l hl hne
    rw [a1, bt_p2 (by omega)] at hq
    have := of_decide_eq_true hq
    omega
  have hdj : ∀ l', l' < 26 → l' ≠ l → c.2.1 3 l' &&& c.2.1 3 l = 0 := fun l' hl' e => bits_dj hCS hl' hl e
  have hw : CW sz at_ dp (lc + 1) tr pc sc (upd (upd c.1 12 (c.1 12 ||| c.2.1 3 l)) 15 (Int32.ofNat (lc + 1)), c.2) := CW_L (tb := c.1 12 ||| c.2.1 3 l) (by omega) (fun q hq => by
    rw [bt_or, Bool.or_eq_true] at hq
    rcases hq with e | e
    · exact hCS.2.2.1 q e
    · exact hb q e) h.1 (fun j a b => by rw [upd_ne b, upd_ne a]) rfl rfl
  obtain ⟨q1, q2, q3, q4, q5, q6, q7, q8, q9, q10, q11, q12, q13, q14, q15⟩ := h
  refine ⟨hw, q2, q3, q4, q5, q6, rfl, q8, q9, q10, q11, ?_, q13, q14, fun l' hl' => ?_⟩
  · rcases q12 with ⟨e1, e2, e3⟩ | e
    · refine Or.inl ⟨e1, e2, fun l' hl' => ?_⟩
      show upd (σ.2 31) l 3 l' = 1 ↔ ¬ (c.2.1 3 l' &&& c.1 11 = 0)
      by_cases hll : l' = l
      · rw [hll, upd_eq]
        have hz : c.2.1 3 l &&& c.1 12 = 0 := hq.elim id (fun e => absurd e1 e)
        have h0 := (q15 l hl).mpr hz
        have hnot := e3 l hl
        rw [h0] at hnot
        exact ⟨fun e => absurd e (by decide), fun e => absurd (hnot.mpr e) (by decide)⟩
      · rw [upd_ne hll]
        exact e3 l' hl'
    · exact Or.inr e
  · show upd (σ.2 31) l 3 l' = 0 ↔ c.2.1 3 l' &&& (c.1 12 ||| c.2.1 3 l) = 0
    by_cases hll : l' = l
    · rw [hll, upd_eq]
      exact ⟨fun e => absurd e (by decide), fun e => absurd e (and_self_or hne)⟩
    · rw [upd_ne hll, and_or (hdj l' hl' hll)]
      exact q15 l' hl'
theorem CV_L {l : Nat} {c2 : ck_S} {at2 pc2 sc2 : Nat} (hlc : lc ≤ 13) (h : CW sz at_ dp lc tr pc sc c) (hv : CV sz at_ dp (lc + 1) tr pc sc (upd (upd c.1 12 (c.1 12 ||| c.2.1 3 l)) 15 (Int32.ofNat (lc + 1)), c.2) c2 at2 pc2 sc2) : CV sz at_ dp lc tr pc sc c (upd (upd c2.1 15 (Int32.ofNat lc)) 12 (c.1 12), c2.2) at2 pc2 sc2 := by
  have h15 : c.1 15 = Int32.ofNat lc := h.2.2.2.2.2.2.2.2.2.1
  have s3 := h.2.2.2.2.2.2.2.2.2.2.2.2.2.2.2.2.1
  obtain ⟨b1', b2, b3, b4, b5, b6, b7⟩ := hv
  obtain ⟨a1, a2, a3, a4, a5, a6, a7, a8⟩ := b5
  refine ⟨CW_L (by omega) (fun q hq => by have := s3 q hq; omega) b1' (fun j a b => by rw [upd_ne a, upd_ne b]) rfl rfl, b2, b3, b4, ⟨fun j x y z => ?_, a2, a3, a4, a5, a6, a7, a8⟩, b6, b7⟩
  show upd (upd c2.1 15 (Int32.ofNat lc)) 12 (c.1 12) j = _
  by_cases j12 : j = 12
  · subst j12
    rw [upd_eq]
  · rw [upd_ne j12]
    by_cases j15 : j = 15
    · subst j15
      rw [upd_eq, h15]
    · rw [upd_ne j15, a1 j x y z]
      show upd (upd c.1 12 _) 15 _ j = _
      rw [upd_ne j15, upd_ne j12]
theorem QR_Lb {l : Nat} {σ2 : gm_S} {c2 : ck_S} {at2 pc2 sc2 pt2 : Nat} (hl : l < 26) (hlc : lc ≤ 13) (h : QR sz at_ dp lc tr pr pc sc pt σ c) (h31 : ∀ l', l' < 26 → σ2.2 31 l' = upd (σ.2 31) l 3 l') (hv : CV sz at_ dp (lc + 1) tr pc sc (upd (upd c.1 12 (c.1 12 ||| c.2.1 3 l)) 15 (Int32.ofNat (lc + 1)), c.2) c2 at2 pc2 sc2) (hQ : QR sz at2 dp (lc + 1) tr pr pc2 sc2 pt2 σ2 c2) : QR sz at2 dp lc tr pr pc2 sc2 pt2 (upd σ2.1 29 (Int32.ofNat lc), gm_up σ2.2 31 (upd (σ2.2 31) l (σ.2 31 l))) (upd (upd c2.1 15 (Int32.ofNat lc)) 12 (c.1 12), c2.2) := by
  have hcv := CV_L (l := l) hlc h.1 hv
  have hCS := h.1.2.2.2.2.2.2.2.2.2.2.2.2.2.2
  have m11 := msk_eq (M := c.1 11) hCS.2.2.2.1 hcv h.1
  have m12 := msk_eq (M := c.1 12) hCS.2.2.1 hcv h.1
  have h11 : c2.1 11 = c.1 11 := hv.2.2.2.2.1.1 11 (by decide) (by decide) (by decide)
  have e31 : ∀ l', l' < 26 → upd (σ2.2 31) l (σ.2 31 l) l' = σ.2 31 l' := fun l' hl' => by
    by_cases e : l' = l
    · rw [e, upd_eq]
    · rw [upd_ne e, h31 l' hl', upd_ne e]
  obtain ⟨p1, p2, p3, p4, p5, p6, p7, p8, p9, p10, p11, p12, p13, p14, p15⟩ := hQ
  obtain ⟨q1, q2, q3, q4, q5, q6, q7, q8, q9, q10, q11, q12, q13, q14, q15⟩ := h
  have hat := hv.2.1
  refine ⟨hcv.1, p2, p3, p4, p5, p6, rfl, p8, p9, p10, p11, ?_, p13, p14, fun l' hl' => ?_⟩
  · rcases p12 with ⟨e1, e2, e3⟩ | e
    · refine Or.inl ⟨e1, e2, fun l' hl' => ?_⟩
      show upd (σ2.2 31) l (σ.2 31 l) l' = 1 ↔ ¬ (c2.2.1 3 l' &&& c2.1 11 = 0)
      rw [e31 l' hl', h11, m11 l' hl']
      rcases q12 with ⟨_, _, z3⟩ | ⟨w, w1, w2, _⟩
      · exact z3 l' hl'
      · exfalso
        have hk := hcv.2.2.2.2.1.2.2.2.2.2.2.2 2 (by decide) (by decide) (by
          rw [w2]
          intro e
          have hs : sz ≤ 500 := q1.2.1
          have ha : at_ ≤ sz := q1.2.2.2.1
          have := (eq_N (b := 501) (by omega) (by decide)).mp e
          omega)
        exact hk e1
    · exact Or.inr e
  · show upd (σ2.2 31) l (σ.2 31 l) l' = 0 ↔ c2.2.1 3 l' &&& c.1 12 = 0
    rw [e31 l' hl', m12 l' hl']
    exact q15 l' hl'
end J20
