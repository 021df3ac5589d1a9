section J14
variable {sz at_ dp lc tr pr pc sc pt n : Nat} {σ : gm_S} {c : ck_S}
theorem wrapG1 {σ1 : gm_S} {c1 : ck_S} {at1 pc1 sc1 pt1 pn a a1 b1 e1 hh tq t1 : Nat} {kd x vl : Int32} {Γ1 : Nat → Bool} (hkd : kd = 4 ∨ kd = 5 ∨ kd = 6 ∨ kd = 8) (hQ : QR sz at1 dp lc tr pr pc1 sc1 pt1 σ1 c1) (hrU : rU pr pc pt tr σ σ1) (hp26 : pt1 < 2600) (hU1 : ULx σ1 c1 pn a1 pt pt1 b1 e1)
    (hn1 : noF c1 → nR σ1.2 c1.2.2.2.1 (c1.2.1 3) hh Γ1 t1 ((Int32.ofNat pn, a1), (pt, pt1), (b1, e1), (pc, pc1))) (htr : tq ≤ 14)
    (hc : c1.2.2.2.1 a = some nD) (hcv : CV sz at_ dp lc tr pc sc c c1 at1 pc1 sc1) (r1 : c.2.2.2.2.1 ≤ a) (r2 : a < c1.2.2.2.2.1) (r3 : c.2.2.2.2.1 ≤ b1) (r4 : e1 ≤ c1.2.2.2.2.1) (x3 : a < b1 ∨ e1 ≤ a) (hedge : a = c.2.2.2.2.1 ∨ a + 1 = c1.2.2.2.2.1)
    (hΓ : Γ1 = (if kd = 8 then zext (Gc c) x.toNatClampNeg else Gc c)) (ht1 : t1 = (if kd = 6 then tq + 1 else tq)) (k4 : noF c1 → kd = 4 → bt (σ1.2 26 pn) 0 = false) (k5 : noF c1 → kd = 5 → ∃ j, j < 26 ∧ x = Int32.ofNat j ∧ vl = c1.2.1 3 j ∧ c1.2.1 3 j ≠ 0 ∧ Gc c j = true) (k8 : noF c1 → kd = 8 → ∃ j, j < 26 ∧ x = Int32.ofNat j ∧ vl = c1.2.1 3 j ∧ c1.2.1 3 j ≠ 0 ∧ Gc c j = false) :
    ∃ c2, sp_Node_init a kd vl (some a1) c1 = some c2 ∧ c2.1 = c1.1 ∧ c2.2.1 = c1.2.1 ∧ c2.2.2.2.2 = c1.2.2.2.2 ∧ CV sz at_ dp lc tr pc sc c c2 at1 pc1 sc1 ∧ (∀ q, q ≠ a → c2.2.2.2.1 q = c1.2.2.2.1 q) ∧ sp_Md_with kd x (Int32.ofNat pn) (-1) σ1 = some (Int32.ofNat pt1, (upd σ1.1 19 (Int32.ofNat (pt1 + 1)), w1A σ1.2 pt1 kd x pn)) ∧ ∀ σ2 : gm_S, σ2.2 = w1A σ1.2 pt1 kd x pn → (∀ j, j ≠ 34 → j ≠ 35 → σ2.1 j = upd σ1.1 19 (Int32.ofNat (pt1 + 1)) j) → QR sz at1 dp lc tr pr pc1 sc1 (pt1 + 1) σ2 c2 ∧ rU pr pc pt tr σ σ2 ∧ UL σ2 c2 pt1 a pt (pt1 + 1) c.2.2.2.2.1 c2.2.2.2.2.1 ∧ (noF c2 → nR σ2.2 c2.2.2.2.1 (c2.2.1 3) (hh + 1) (Gc c) tq ((Int32.ofNat pt1, a), (pt, pt1 + 1), (c.2.2.2.2.1, c2.2.2.2.2.1), (pc, pc1))) := by
  obtain ⟨u1, u2, u3, u4, u5, u6, k1, v1, f1, u7⟩ := hU1
  have h19 : σ1.1 19 = Int32.ofNat pt1 := hQ.2.2.2.2.2.2.2.2.2.2.1
  have na1 : a1 ≠ a := by omega
  have hk1' : ¬ (kd = 1) := by rcases hkd with e | e | e | e <;> (rw [e]; decide)
  have hin := init1 (kd := kd) (v := vl) hc u7 na1
  rw [if_neg hk1'] at hin
  refine ⟨_, hin, rfl, rfl, rfl, CV_E hcv r1, fun q q1 => eset_ne q1, w1_eq h19 hp26 u2, fun σ2 hσA hσN => ?_⟩
  have hcell : (cE c1 a (nC kd vl (some a1) (0 ||| σ1.2 25 pn) (cA kd vl [(a1, σ1.2 25 pn, σ1.2 26 pn)]) none)).2.2.2.1 a = some (nC kd vl (some a1) (0 ||| σ1.2 25 pn) (cA kd vl [(a1, σ1.2 25 pn, σ1.2 26 pn)]) none) := eset_eq
  have hcq : ∀ q, q ≠ a → (cE c1 a (nC kd vl (some a1) (0 ||| σ1.2 25 pn) (cA kd vl [(a1, σ1.2 25 pn, σ1.2 26 pn)]) none)).2.2.2.1 q = c1.2.2.2.1 q := fun q q1 => eset_ne q1
  have hc1 : (cE c1 a (nC kd vl (some a1) (0 ||| σ1.2 25 pn) (cA kd vl [(a1, σ1.2 25 pn, σ1.2 26 pn)]) none)).1 = c1.1 := rfl
  have hc2 : (cE c1 a (nC kd vl (some a1) (0 ||| σ1.2 25 pn) (cA kd vl [(a1, σ1.2 25 pn, σ1.2 26 pn)]) none)).2.1 = c1.2.1 := rfl
  have hnx : (cE c1 a (nC kd vl (some a1) (0 ||| σ1.2 25 pn) (cA kd vl [(a1, σ1.2 25 pn, σ1.2 26 pn)]) none)).2.2.2.2.1 = c1.2.2.2.2.1 := rfl
  generalize cE c1 a (nC kd vl (some a1) (0 ||| σ1.2 25 pn) (cA kd vl [(a1, σ1.2 25 pn, σ1.2 26 pn)]) none) = c2 at hcell hcq hc1 hc2 hnx ⊢
  have hw := with1 (x := x) (A := σ1.2) (n := pt1) (E1 := c1.2.2.2.1) (E2 := c2.2.2.2.1) (β := c2.2.1 3) (Γ := Gc c) (Γ1 := Γ1) (t := tq) (t1 := t1) (hh := hh) (a := a) (alo := c.2.2.2.2.1) (ahi := c2.2.2.2.2.1) (alo1 := b1) (ahi1 := e1) (u := pc) (v := pc1) hkd hp26 u1 u2 u5 u6 htr r1 (by rw [hnx]; exact r2) r3 (by rw [hnx]; exact r4) (x3.elim Or.inl (fun e => Or.inr (Or.inl e))) u3 u4 u7 hcell (fun q q1 q2 => hcq q (by omega))
  have hQ2 : QR sz at1 dp lc tr pr pc1 sc1 (pt1 + 1) (upd (upd σ1.1 19 (Int32.ofNat (pt1 + 1))) 34 0, w1A σ1.2 pt1 kd x pn) c2 := QR_h (QR_w hQ (fun j hj => w1_o hj)) hc1 hc2
  have hR2 : rU pr pc pt tr σ (upd (upd σ1.1 19 (Int32.ofNat (pt1 + 1))) 34 0, w1A σ1.2 pt1 kd x pn) := rU_tr hrU (rU_w (fun j hj => w1_o hj) (fun j q _ _ hq => w1_ne hp26 u2 u5 (by omega))) (Nat.le_refl _) (Nat.le_refl _)
  have hnum : ∀ j, j ≠ 34 → j ≠ 35 → σ2.1 j = (upd (upd σ1.1 19 (Int32.ofNat (pt1 + 1))) 34 0) j := fun j j1 j2 => by rw [upd_ne j1]; exact hσN j j1 j2
  refine ⟨QR_r hQ2 hnum (fun j _ => by rw [hσA]), rU_r hR2 hnum hσA, ?_, fun hno => ?_⟩
  · unfold UL
    rw [hσA, hnx]
    exact ⟨by omega, Nat.lt_succ_self _, r1, r2, hedge.elim Or.inl (fun e => Or.inr (Or.inl e)), w1_24 hp26 u2, hw.1, kd, vl, some a1, hw.2.1⟩
  · have hno1 : noF c1 := by unfold noF at hno ⊢; rw [← hc2]; exact hno
    have m1 := hn1 hno1
    rw [← hc2] at m1 k5 k8
    rw [hσA]
    exact hw.2.2 m1 hΓ ht1 (k4 hno1) (k5 hno1) (k8 hno1)
theorem exit2_j {hh tq : Nat} (hh1 : 1 ≤ hh) (h : QR sz at_ dp lc tr pr pc sc pt σ c) (hpt : pt < 2600) (htq : tq ≤ 14) (h1 : 1 ≤ tq) : sp_Md_makePart 7 (-1) 2 σ = some (Int32.ofNat pt, (upd σ.1 19 (Int32.ofNat (pt + 1)), mkA σ.2 pt 7 (-1) 2)) ∧ sp_Rd_newExit 2 c = some (some c.2.2.2.2.1, cM c (nC 7 2 none 0 4 none)) ∧ VX 1 hh tq sz at_ dp lc tr pr pc sc pt σ c (Int32.ofNat pt) (upd σ.1 19 (Int32.ofNat (pt + 1)), mkA σ.2 pt 7 (-1) 2) c.2.2.2.2.1 (cM c (nC 7 2 none 0 4 none)) at_ pc sc (pt + 1) pt := by
  have hl := leaf_j (kd := 7) (x := -1) (v := 2) (vl := 2) hh1 h hpt (by decide) (by show b16 ((1 : Int32) <<< (Int32.ofNat 2 &&& 31)); exact b16_p2 (by decide)) rfl htq rfl (fun _ => by
    refine Or.inr (Or.inr (Or.inr (Or.inr (Or.inr (Or.inr (Or.inr (Or.inl ⟨?_, rfl, 2, by omega, by omega, by omega, ?_, rfl⟩)))))))
    · rw [mk_20, upd_eq]
    · rw [mk_22, upd_eq]; rfl)
  exact ⟨hl.1, exit_eq, hl.2⟩
theorem noth_j {hh tq : Nat} (hh1 : 1 ≤ hh) (h : QR sz at_ dp lc tr pr pc sc pt σ c) (hpt : pt < 2600) (htq : tq ≤ 14) : sp_Md_makePart 0 (-1) 0 σ = some (Int32.ofNat pt, (upd σ.1 19 (Int32.ofNat (pt + 1)), mkA σ.2 pt 0 (-1) 0)) ∧ sp_Rd_nothing c = some (some c.2.2.2.2.1, cM c (nC 0 0 none 0 1 none)) ∧ VX 1 hh tq sz at_ dp lc tr pr pc sc pt σ c (Int32.ofNat pt) (upd σ.1 19 (Int32.ofNat (pt + 1)), mkA σ.2 pt 0 (-1) 0) c.2.2.2.2.1 (cM c (nC 0 0 none 0 1 none)) at_ pc sc (pt + 1) pt := by
  have hl := leaf_j (kd := 0) (x := -1) (v := 0) (vl := 0) hh1 h hpt (by decide) b16_1 rfl htq rfl (fun _ => Or.inl ⟨by rw [mk_20, upd_eq], rfl⟩)
  exact ⟨hl.1, nothing_eq, hl.2⟩
theorem emit_j {hh tq : Nat} {x s : Int32} (hh1 : 1 ≤ hh) (h : QR sz at_ dp lc tr pr pc sc pt σ c) (hpt : pt < 2600) (htq : tq ≤ 14) (hk : noF c → ∃ j, j < 26 ∧ x = Int32.ofNat j ∧ s = c.2.1 3 j ∧ c.2.1 3 j ≠ 0 ∧ Gc c j = true) : sp_Md_makePart 2 x 0 σ = some (Int32.ofNat pt, (upd σ.1 19 (Int32.ofNat (pt + 1)), mkA σ.2 pt 2 x 0)) ∧ sp_Rd_newEmit s c = some (some c.2.2.2.2.1, cM c (nC 2 s none 0 1 none)) ∧ VX 1 hh tq sz at_ dp lc tr pr pc sc pt σ c (Int32.ofNat pt) (upd σ.1 19 (Int32.ofNat (pt + 1)), mkA σ.2 pt 2 x 0) c.2.2.2.2.1 (cM c (nC 2 s none 0 1 none)) at_ pc sc (pt + 1) pt := by
  have hl := leaf_j (kd := 2) (x := x) (v := 0) (vl := s) hh1 h hpt (by decide) b16_1 rfl htq rfl (fun hno => by
    refine Or.inr (Or.inr (Or.inl ⟨by rw [mk_20, upd_eq], rfl, ?_⟩))
    obtain ⟨j, j1, j2, j3, j4, j5⟩ := hk hno
    exact ⟨j, j1, by rw [mk_21, upd_eq]; exact j2, j3, j4, j5⟩)
  exact ⟨hl.1, emit_eq, hl.2⟩
end J14
