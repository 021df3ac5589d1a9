section J8
variable {sz at_ dp lc tr pr pc sc pt : Nat} {σ : gm_S} {c : ck_S}
theorem QR_w {A' : Nat → Nat → Int32} {x : Int32} (h : QR sz at_ dp lc tr pr pc sc pt σ c) (hA : ∀ j, (j < 20 ∨ 26 < j) → A' j = σ.2 j) : QR sz at_ dp lc tr pr pc sc (pt + 1) (upd (upd σ.1 19 (Int32.ofNat (pt + 1))) 34 x, A') c := by
  obtain ⟨q1, q2, q3, q4, q5, q6, q7, q8, q9, q10, q11, q12, q13, q14, q15⟩ := h
  have e30 := hA 30 (by omega)
  have e31 := hA 31 (by omega)
  refine ⟨q1, q2, q3, q4, by simp only; rw [hA 4 (by omega)]; exact q5, q6, q7, q8, by simp only; rw [hA 33 (by omega)]; exact q9, by simp only; rw [hA 17 (by omega), hA 18 (by omega)]; exact q10, rfl, by unfold fr2; simp only; rw [e30, e31]; exact q12, by unfold frk; simp only; rw [e30]; exact q13, by unfold frk; simp only; rw [e30]; exact q14, by simp only; rw [e31]; exact q15⟩
theorem rU_w {A' : Nat → Nat → Int32} {x : Int32} {pt1 : Nat} (hA : ∀ j, (j < 20 ∨ 26 < j) → A' j = σ.2 j) (hA2 : ∀ j q, 20 ≤ j → j ≤ 26 → q < pt → A' j q = σ.2 j q) : rU pr pc pt tr σ (upd (upd σ.1 19 (Int32.ofNat (pt1 + 1))) 34 x, A') := by
  refine ⟨⟨fun j _ _ _ _ h19 h34 _ => ?_, fun j _ _ _ _ _ hj => hA j hj⟩, fun l _ => by simp only; rw [hA 31 (by omega)], fun i _ => by simp only; rw [hA 17 (by omega)], fun i _ => by simp only; rw [hA 18 (by omega)], hA2, fun i _ => by simp only; rw [hA 33 (by omega)]⟩
  show upd (upd σ.1 19 _) 34 _ j = _
  rw [upd_ne h34, upd_ne h19]
def ULx (σ : gm_S) (c : ck_S) (pn a lo hi m m' : Nat) : Prop := lo ≤ pn ∧ pn < hi ∧ m ≤ a ∧ a < m' ∧ σ.2 24 pn = -1 ∧ b16 (σ.2 26 pn) ∧ ∃ kd v f, c.2.2.2.1 a = some (nC kd v f (σ.2 25 pn) (σ.2 26 pn) none)
theorem UL_x {pn a lo hi m m' : Nat} (h : UL σ c pn a lo hi m m') : ULx σ c pn a lo hi m m' := ⟨h.1, h.2.1, h.2.2.1, h.2.2.2.1, h.2.2.2.2.2⟩
theorem wrapJ1 {σ1 : gm_S} {c1 c2 : ck_S} {at1 pc1 sc1 pt1 pn a a1 m1 hh t1 : Nat} {kd x vl : Int32} {Γ1 : Nat → Bool} (hkd : kd = 4 ∨ kd = 5 ∨ kd = 6 ∨ kd = 8) (hQ : QR sz at1 dp lc tr pr pc1 sc1 pt1 σ1 c1) (hrU : rU pr pc pt tr σ σ1) (hpt : pt ≤ pt1) (hp26 : pt1 < 2600) (hUL : ULx σ1 c1 pn a1 pt pt1 m1 c1.2.2.2.2.1) (hnR : noF c1 → nR σ1.2 c1.2.2.2.1 (c1.2.1 3) hh Γ1 t1 ((Int32.ofNat pn, a1), (pt, pt1), (m1, c1.2.2.2.2.1), (pc, pc1))) (htr : tr ≤ 14)
    (h1 : c2.1 = c1.1) (h2 : c2.2.1 = c1.2.1) (hcv : CV sz at_ dp lc tr pc sc c c2 at1 pc1 sc1) (hcell : c2.2.2.2.1 a = some (nC kd vl (some a1) (0 ||| σ1.2 25 pn) (cA kd vl [(a1, σ1.2 25 pn, σ1.2 26 pn)]) none)) (hag : ∀ q, m1 ≤ q → q < c1.2.2.2.2.1 → c2.2.2.2.1 q = c1.2.2.2.1 q) (hb1 : c.2.2.2.2.1 ≤ a) (hb2 : a < c2.2.2.2.2.1) (hb3 : c1.2.2.2.2.1 ≤ c2.2.2.2.2.1) (hb4 : c.2.2.2.2.1 ≤ m1) (hdis : a < m1 ∨ c1.2.2.2.2.1 ≤ a) (hedge : a = c.2.2.2.2.1 ∨ a + 1 = c2.2.2.2.2.1)
    (hΓ : Γ1 = (if kd = 8 then zext (Gc c) x.toNatClampNeg else Gc c)) (ht1 : t1 = (if kd = 6 then tr + 1 else tr)) (k4 : noF c1 → kd = 4 → bt (σ1.2 26 pn) 0 = false) (k5 : noF c1 → kd = 5 → ∃ j, j < 26 ∧ x = Int32.ofNat j ∧ vl = c1.2.1 3 j ∧ c1.2.1 3 j ≠ 0 ∧ Gc c j = true) (k8 : noF c1 → kd = 8 → ∃ j, j < 26 ∧ x = Int32.ofNat j ∧ vl = c1.2.1 3 j ∧ c1.2.1 3 j ≠ 0 ∧ Gc c j = false) :
    sp_Md_with kd x (Int32.ofNat pn) (-1) σ1 = some (Int32.ofNat pt1, (upd σ1.1 19 (Int32.ofNat (pt1 + 1)), w1A σ1.2 pt1 kd x pn)) ∧ ∃ σ2, σ2 = ((upd (upd σ1.1 19 (Int32.ofNat (pt1 + 1))) 34 (Int32.ofNat pt1), w1A σ1.2 pt1 kd x pn) : gm_S) ∧ QR sz at1 dp lc tr pr pc1 sc1 (pt1 + 1) σ2 c2 ∧ rU pr pc pt tr σ σ2 ∧ UL σ2 c2 pt1 a pt (pt1 + 1) c.2.2.2.2.1 c2.2.2.2.2.1 ∧ (noF c2 → nR σ2.2 c2.2.2.2.1 (c2.2.1 3) (hh + 1) (Gc c) tr ((Int32.ofNat pt1, a), (pt, pt1 + 1), (c.2.2.2.2.1, c2.2.2.2.2.1), (pc, pc1))) := by
  obtain ⟨u1, u2, u3, u4, u5, u6, k1, v1, f1, u7⟩ := hUL
  have h19 : σ1.1 19 = Int32.ofNat pt1 := hQ.2.2.2.2.2.2.2.2.2.2.1
  have hw := with1 (x := x) (A := σ1.2) (n := pt1) (E1 := c1.2.2.2.1) (E2 := c2.2.2.2.1) (β := c2.2.1 3) (Γ := Gc c) (Γ1 := Γ1) (t := tr) (t1 := t1) (hh := hh) (a := a) (u := pc) (v := pc1) hkd hp26 u1 u2 u5 u6 htr hb1 hb2 hb4 hb3 (hdis.elim Or.inl (fun e => Or.inr (Or.inl e))) u3 u4 u7 hcell hag
  refine ⟨w1_eq h19 hp26 u2, _, rfl, QR_h (QR_w hQ (fun j hj => w1_o hj)) h1 h2, rU_tr hrU (rU_w (fun j hj => w1_o hj) (fun j q _ _ hq => w1_ne hp26 u2 u5 (by omega))) (Nat.le_refl _) (Nat.le_refl _), ⟨hpt, Nat.lt_succ_self _, hb1, hb2, hedge.elim Or.inl (fun e => Or.inr (Or.inl e)), w1_24 hp26 u2, hw.1, kd, vl, some a1, hw.2.1⟩, fun hno => ?_⟩
  have hno1 : noF c1 := by unfold noF at hno ⊢; rw [← h2]; exact hno
  have hk := hnR hno1
  rw [← h2] at hk k5 k8
  exact hw.2.2 hk hΓ ht1 (k4 hno1) (k5 hno1) (k8 hno1)
theorem Gc_eq {c1 : ck_S} {at1 pc1 sc1 : Nat} (hcv : CV sz at_ dp lc tr pc sc c c1 at1 pc1 sc1) (hW : CW sz at_ dp lc tr pc sc c) (h12 : c1.1 12 = c.1 12) : ∀ l, l < 26 → Gc c1 l = Gc c l := by
  intro l hl
  unfold Gc
  rw [h12]
  by_cases h0 : c.2.1 3 l = 0
  · have hz : c.2.1 3 l &&& c.1 12 = 0 := by rw [h0]; exact and_0
    have hz' : c1.2.1 3 l &&& c.1 12 = 0 := by
      apply bt_az.mpr
      intro q hq
      cases hb : bt (c.1 12) q
      · rfl
      · exfalso
        obtain ⟨_, _, s3, _, ix, s5, _, s7⟩ := hW.2.2.2.2.2.2.2.2.2.2.2.2.2.2
        have hqs := s3 q hb
        obtain ⟨l0, t1, t2, t3⟩ := s7 q hqs
        obtain ⟨_, z2, _, _, ix', s5', s6', _⟩ := hcv.1.2.2.2.2.2.2.2.2.2.2.2.2.2.2
        have e0 : c1.2.1 3 l0 = c.2.1 3 l0 := hcv.2.2.2.2.1.2.2.2.2.1 l0 t1 t2
        have hl0 : c1.2.1 3 l ≠ 0 := fun e => by rw [e, bt_0] at hq; cases hq
        have hl00 : c1.2.1 3 l0 ≠ 0 := by rw [e0]; exact t2
        obtain ⟨w1, w2⟩ := s5' l hl hl0
        obtain ⟨w3, w4⟩ := s5' l0 t1 hl00
        have hsc : sc1 ≤ 26 := by omega
        rw [w1, bt_p2 (by omega)] at hq
        have hq' := of_decide_eq_true hq
        obtain ⟨w5, w6⟩ := s5 l0 t1 t2
        have hsc0 : sc ≤ 26 := by have := hcv.2.2.2.1; omega
        have hbit : bt (c1.2.1 3 l0) q = true := by rw [e0, w5, t3, bt_p2 (by omega)]; simp
        rw [w3, bt_p2 (by omega)] at hbit
        have hq'' := of_decide_eq_true hbit
        have := s6' l l0 hl t1 hl0 hl00 (by omega)
        rw [this] at h0
        exact t2 h0
    rw [hz, hz']
  · rw [hcv.2.2.2.2.1.2.2.2.2.1 l hl h0]
end J8
