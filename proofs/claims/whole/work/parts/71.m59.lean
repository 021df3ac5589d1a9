section J12
variable {sz at_ dp lc tr pr pc sc pt n : Nat} {σ : gm_S} {c : ck_S} {f : gm_S → Option (Int32 × gm_S)} {g : ck_S → Option (Option Nat × ck_S)}
theorem mv_UL {σ1 σ2 : gm_S} {c1 c2 : ck_S} {pn a lo hi m m' : Nat} (hU : ∀ j q, 20 ≤ j → j ≤ 26 → q < hi → σ2.2 j q = σ1.2 j q) (hE : ∀ q, q < m' → c2.2.2.2.1 q = c1.2.2.2.1 q) (h : UL σ1 c1 pn a lo hi m m') : UL σ2 c2 pn a lo hi m m' := by
  obtain ⟨u1, u2, u3, u4, ug, u5, u6, k1, v1, f1, u7⟩ := h
  refine ⟨u1, u2, u3, u4, by rw [hU 20 pn (by decide) (by decide) u2]; exact ug, by rw [hU 24 pn (by decide) (by decide) u2]; exact u5, by rw [hU 26 pn (by decide) (by decide) u2]; exact u6, k1, v1, f1, ?_⟩
  rw [hE a u4, hU 25 pn (by decide) (by decide) u2, hU 26 pn (by decide) (by decide) u2]
  exact u7
theorem mv_nR {T T' : mw_A} {E E' : ck_E} {β β' : Nat → Int32} {Γ : Nat → Bool} {hh t hi m' : Nat} {x : kd_R} (hU : ∀ j q, 20 ≤ j → j ≤ 26 → q < hi → T' j q = T j q) (hE : ∀ q, q < m' → E' q = E q) (hβ : ∀ j, j < 26 → β j ≠ 0 → β' j = β j) (h1 : x.2.1.2 ≤ hi) (h2 : x.2.2.1.2 ≤ m') (h : nR T E β hh Γ t x) : nR T' E' β' hh Γ t x := by
  obtain ⟨_, p3, p4⟩ := nR_pi h
  refine nR_ext _ _ _ _ h ⟨fun j q a b _ d _ => hU j q a b (by omega), fun q _ b _ => hE q (by omega), fun j _ => eg_E (hE _ (by omega)), fun _ => hE _ (by omega)⟩ hβ
theorem rU_r {σ1 σ2 : gm_S} (h : rU pr pc pt tr σ σ1) (h1 : ∀ j, j ≠ 34 → j ≠ 35 → σ2.1 j = σ1.1 j) (h2 : σ2.2 = σ1.2) : rU pr pc pt tr σ σ2 := by
  obtain ⟨⟨a1, a1'⟩, a2, a3, a4, a5, a6⟩ := h
  rw [← h2] at a1' a2 a3 a4 a5 a6
  exact ⟨⟨fun j b1 b2 b3 b4 b5 b6 b7 => (h1 j b6 b7).trans (a1 j b1 b2 b3 b4 b5 b6 b7), a1'⟩, a2, a3, a4, a5, a6⟩
theorem wrapJ2 {σ1 : gm_S} {c1 : ck_S} {at1 pc1 sc1 pt1 mid pn1 pn2 a a1 a2 b1 e1 b2 e2 w hh tq : Nat} {kd x vl : Int32} (hkd : kd = 3 ∨ kd = 9 ∨ kd = 10) (hQ : QR sz at1 dp lc tr pr pc1 sc1 pt1 σ1 c1) (hrU : rU pr pc pt tr σ σ1) (hp26 : pt1 < 2600) (hU1 : UL σ1 c1 pn1 a1 pt mid b1 e1) (hU2 : ULx σ1 c1 pn2 a2 mid pt1 b2 e2)
    (hn1 : noF c1 → nR σ1.2 c1.2.2.2.1 (c1.2.1 3) hh (Gc c) tq ((Int32.ofNat pn1, a1), (pt, mid), (b1, e1), (pc, w))) (hn2 : noF c1 → nR σ1.2 c1.2.2.2.1 (c1.2.1 3) hh (Gc c) tq ((Int32.ofNat pn2, a2), (mid, pt1), (b2, e2), (w, pc1))) (htr : tq ≤ 14)
    (hc : c1.2.2.2.1 a = some nD) (hcv : CV sz at_ dp lc tr pc sc c c1 at1 pc1 sc1) (r1 : c.2.2.2.2.1 ≤ a) (r2 : a < c1.2.2.2.2.1) (r3 : c.2.2.2.2.1 ≤ b1) (r4 : e1 ≤ c1.2.2.2.2.1) (x3 : a < b1 ∨ e1 ≤ a) (r5 : c.2.2.2.2.1 ≤ b2) (r6 : e2 ≤ c1.2.2.2.2.1) (y3 : a < b2 ∨ e2 ≤ a) (hdis : e1 ≤ b2 ∨ e2 ≤ b1)
    (k3 : noF c1 → kd = 3 → ∃ j, j < 26 ∧ x = Int32.ofNat j ∧ vl = c1.2.1 3 j ∧ c1.2.1 3 j ≠ 0 ∧ Gc c j = true) :
    ∃ c1' c2, sp_Rd_chain (some a1) (some a2) c1 = some (some a1, c1') ∧ sp_Node_init a kd vl (some a1) c1' = some c2 ∧ c2.1 = c1.1 ∧ c2.2.1 = c1.2.1 ∧ c2.2.2.2.2 = c1.2.2.2.2 ∧ CV sz at_ dp lc tr pc sc c c2 at1 pc1 sc1 ∧ (∀ q, q ≠ a → q ≠ a1 → c2.2.2.2.1 q = c1.2.2.2.1 q) ∧ sp_Md_with kd x (Int32.ofNat pn1) (Int32.ofNat pn2) σ1 = some (Int32.ofNat pt1, (upd σ1.1 19 (Int32.ofNat (pt1 + 1)), w2A σ1.2 pt1 kd x pn1 pn2)) ∧ ∀ σ2 : gm_S, σ2.2 = w2A σ1.2 pt1 kd x pn1 pn2 → (∀ j, j ≠ 34 → j ≠ 35 → σ2.1 j = upd σ1.1 19 (Int32.ofNat (pt1 + 1)) j) → QR sz at1 dp lc tr pr pc1 sc1 (pt1 + 1) σ2 c2 ∧ rU pr pc pt tr σ σ2 ∧ UL σ2 c2 pt1 a pt (pt1 + 1) c.2.2.2.2.1 c2.2.2.2.2.1 ∧ (noF c2 → nR σ2.2 c2.2.2.2.1 (c2.2.1 3) (hh + 1) (Gc c) tq ((Int32.ofNat pt1, a), (pt, pt1 + 1), (c.2.2.2.2.1, c2.2.2.2.2.1), (pc, pc1))) := by
  obtain ⟨u1, u2, u3, u4, ug, u5, u6, k1, v1, f1, u7⟩ := hU1
  obtain ⟨z1, z2, z3, z4, z5, z6, k2, v2, f2, z7⟩ := hU2
  have h19 : σ1.1 19 = Int32.ofNat pt1 := hQ.2.2.2.2.2.2.2.2.2.2.1
  have na1 : a1 ≠ a := by omega
  have na2 : a2 ≠ a := by omega
  have na12 : a1 ≠ a2 := by omega
  have hch := chain_eq (a2 := some a2) u7
  have g0 : (cE c1 a1 (nC k1 v1 f1 (σ1.2 25 pn1) (σ1.2 26 pn1) (some a2))).2.2.2.1 a = some nD := by
    show eset _ _ _ a = _
    rw [eset_ne (fun e => na1 e.symm), hc]
  have g1 : (cE c1 a1 (nC k1 v1 f1 (σ1.2 25 pn1) (σ1.2 26 pn1) (some a2))).2.2.2.1 a1 = some (nC k1 v1 f1 (σ1.2 25 pn1) (σ1.2 26 pn1) (some a2)) := eset_eq
  have g2 : (cE c1 a1 (nC k1 v1 f1 (σ1.2 25 pn1) (σ1.2 26 pn1) (some a2))).2.2.2.1 a2 = some (nC k2 v2 f2 (σ1.2 25 pn2) (σ1.2 26 pn2) none) := by
    show eset _ _ _ a2 = _
    rw [eset_ne (fun e => na12 e.symm), z7]
  have hk1' : ¬ (kd = 1) := by rcases hkd with e | e | e <;> (rw [e]; decide)
  have hin := init2 (kd := kd) (v := vl) g0 g1 g2 na1 na2
  rw [if_neg hk1'] at hin
  have hle := hcv.2.2.2.2.2.1.1
  refine ⟨_, _, hch, hin, rfl, rfl, rfl, CV_E (CV_E hcv (by omega)) r1, fun q q1 q2 => ?_, w2_eq h19 hp26 (by omega) z2 (by omega), fun σ2 hσA hσN => ?_⟩
  · show eset (eset _ _ _) _ _ q = _
    rw [eset_ne q1, eset_ne q2]
  · generalize hC2 : cE (cE c1 a1 (nC k1 v1 f1 (σ1.2 25 pn1) (σ1.2 26 pn1) (some a2))) a (nC kd vl (some a1) (0 ||| σ1.2 25 pn1 ||| σ1.2 25 pn2) (cA kd vl [(a1, σ1.2 25 pn1, σ1.2 26 pn1), (a2, σ1.2 25 pn2, σ1.2 26 pn2)]) none) = c2
    have hc1 : c2.1 = c1.1 := by rw [← hC2]; rfl
    have hc2 : c2.2.1 = c1.2.1 := by rw [← hC2]; rfl
    have hc3 : c2.2.2.2.2 = c1.2.2.2.2 := by rw [← hC2]; rfl
    have hnx : c2.2.2.2.2.1 = c1.2.2.2.2.1 := by rw [hc3]
    have hca : c2.2.2.2.1 a = some (nC kd vl (some a1) (0 ||| σ1.2 25 pn1 ||| σ1.2 25 pn2) (cA kd vl [(a1, σ1.2 25 pn1, σ1.2 26 pn1), (a2, σ1.2 25 pn2, σ1.2 26 pn2)]) none) := by rw [← hC2]; exact eset_eq
    have hca1 : c2.2.2.2.1 a1 = some (nC k1 v1 f1 (σ1.2 25 pn1) (σ1.2 26 pn1) (some a2)) := by
      rw [← hC2]
      show eset _ _ _ a1 = _
      rw [eset_ne na1]
      exact eset_eq
    have hcq : ∀ q, q ≠ a → q ≠ a1 → c2.2.2.2.1 q = c1.2.2.2.1 q := fun q q1 q2 => by
      rw [← hC2]
      show eset (eset _ _ _) _ _ q = _
      rw [eset_ne q1, eset_ne q2]
    have hrg0 : ¬ (b1 < a1 ∧ a1 + 2 = e1 ∧ σ1.2 20 pn1 = 4) := fun e0 => by
      obtain ⟨g1, g2, g3⟩ := e0
      rcases ug with e | e | e
      · omega
      · omega
      · exact e g3
    have hw := with2 (x := x) (A := σ1.2) (n := pt1) (E1 := c1.2.2.2.1) (E2 := c2.2.2.2.1) (β := c2.2.1 3) (Γ := Gc c) (t := tq) (hh := hh) (a := a) (alo := c.2.2.2.2.1) (ahi := c2.2.2.2.2.1) (vl := vl) (u := pc) (w := w) (v := pc1) hkd hp26 u1 u2 z1 z2 u5 z5 u6 z6 htr r1 (by rw [hnx]; exact r2) r3 (by rw [hnx]; exact r4) x3 r5 (by rw [hnx]; exact r6) y3 u3 u4 z3 z4 hrg0 hdis u7 z7 hca hca1 (fun q q1 q2 q3 => hcq q (by omega) q3) (fun q q1 q2 => hcq q (by omega) (by omega))
    have hQ2 : QR sz at1 dp lc tr pr pc1 sc1 (pt1 + 1) (upd (upd σ1.1 19 (Int32.ofNat (pt1 + 1))) 34 0, w2A σ1.2 pt1 kd x pn1 pn2) c2 := QR_h (QR_w hQ (fun j hj => w2_o hj)) hc1 hc2
    have hR2 : rU pr pc pt tr σ (upd (upd σ1.1 19 (Int32.ofNat (pt1 + 1))) 34 0, w2A σ1.2 pt1 kd x pn1 pn2) := rU_tr hrU (rU_w (fun j hj => w2_o hj) (fun j q _ _ hq => w2_ne hp26 z2 (by omega) z5 (by omega) (Or.inr (by omega)))) (Nat.le_refl _) (Nat.le_refl _)
    have hnum : ∀ j, j ≠ 34 → j ≠ 35 → σ2.1 j = (upd (upd σ1.1 19 (Int32.ofNat (pt1 + 1))) 34 0) j := fun j j1 j2 => by rw [upd_ne j1]; exact hσN j j1 j2
    refine ⟨QR_r hQ2 hnum (fun j _ => by rw [hσA]), rU_r hR2 hnum hσA, ?_, fun hno => ?_⟩
    · unfold UL
      rw [hσA, hnx]
      refine ⟨by omega, Nat.lt_succ_self _, r1, r2, Or.inr (Or.inr (by rw [w2_20]; rcases hkd with e | e | e <;> (rw [e]; decide))), (w2_24 hp26 (by omega) z2 (by omega)).1, hw.1, kd, vl, some a1, hw.2.1⟩
    · have hno1 : noF c1 := by unfold noF at hno ⊢; rw [← hc2]; exact hno
      have m1 := hn1 hno1
      have m2 := hn2 hno1
      rw [← hc2] at m1 m2 k3
      rw [hσA]
      exact hw.2.2 m1 m2 (k3 hno1)
end J12
