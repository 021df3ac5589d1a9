section J15
variable {sz at_ dp lc tr pr pc sc pt n : Nat} {σ : gm_S} {c : ck_S}
theorem nC_inj {k k' v v' w w' o o' : Int32} {x x' y y' : Option Nat} (h : some (nC k v x w o y) = some (nC k' v' x' w' o' y')) : w = w' ∧ o = o' := by
  unfold nC at h
  injection h with h
  injection h with h
  injection h with _ h
  injection h with _ h
  injection h with _ h
  injection h with _ h
  injection h with h1 h
  injection h with h2 _
  injection h1 with h1
  injection h2 with h2
  exact ⟨h1, h2⟩
theorem b2_0 : bt 2 0 = false := by rw [bt_2]; rfl
theorem oS92 {o : Int32} : oE 9 (oS 9 2 o) = 2 := rfl
theorem watch_j {start tq : Nat} {x s : Int32} (h : QR sz at_ dp lc tr pr pc sc pt σ c) (hp : pc + 1 ≤ at_) (hs : start ≤ 500) (hp26 : pt + 6 ≤ 2600) (htq : tq ≤ 14) (h1 : 1 ≤ tq) (hk : noF c → ∃ j, j < 26 ∧ x = Int32.ofNat j ∧ s = c.2.1 3 j ∧ c.2.1 3 j ≠ 0 ∧ Gc c j = true) : ∃ σ' c', sp_Md_waiting x (Int32.ofNat start) σ = some (Int32.ofNat (pt + 5), σ') ∧ sp_Rd_newWatch s (Int32.ofNat start) c = some (some (c.2.2.2.2.1 + 4), c') ∧ QR sz at_ dp lc tr pr (pc + 1) sc (pt + 6) σ' c' ∧ CV sz at_ dp lc tr pc sc c c' at_ (pc + 1) sc ∧ rU pr pc pt tr σ σ' ∧ c'.2.2.2.2.1 = c.2.2.2.2.1 + 6 ∧ c'.2.1 3 = c.2.1 3 ∧ ULx σ' c' (pt + 5) (c.2.2.2.2.1 + 4) pt (pt + 6) c.2.2.2.2.1 c'.2.2.2.2.1 ∧ (noF c' → nR σ'.2 c'.2.2.2.1 (c'.2.1 3) 4 (Gc c) tq ((Int32.ofNat (pt + 5), c.2.2.2.2.1 + 4), (pt, pt + 6), (c.2.2.2.2.1, c'.2.2.2.2.1), (pc, pc + 1))) := by
  obtain ⟨σ1, c1, p1, p2, p3, p4, p5, p6, p7, p8⟩ := pause_j (hh := 2) (tq := tq) (start := start) (by decide) h (by omega) hp hs htq
  obtain ⟨x1, x2, x3, _, _, _, x7, x8⟩ := p3
  have hQ1 : QR sz at_ dp lc tr pr (pc + 1) sc (pt + 1) σ1 (cM c1 nD) := QR_h x1 rfl rfl
  obtain ⟨e1, e2, e3⟩ := exit2_j (hh := 1) (tq := tq) (by decide) hQ1 (by omega) htq h1
  generalize hσ2 : ((upd σ1.1 19 (Int32.ofNat (pt + 1 + 1)), mkA σ1.2 (pt + 1) 7 (-1) 2) : gm_S) = σ2 at e1 e3
  obtain ⟨y1, y2, y3, _, _, _, y7, y8⟩ := e3
  obtain ⟨n1, n2, n3⟩ := noth_j (hh := 1) (tq := tq) (by decide) y1 (by omega) htq
  generalize hσ3 : ((upd σ2.1 19 (Int32.ofNat (pt + 1 + 1 + 1)), mkA σ2.2 (pt + 1 + 1) 0 (-1) 0) : gm_S) = σ3 at n1 n3
  obtain ⟨z1, z2, z3, _, _, _, z7, z8⟩ := n3
  have g12 : c1.1 12 = c.1 12 := x2.2.2.2.2.1.1 12 (by decide) (by decide) (by decide)
  have hG1 : Gc c1 = Gc c := Gc_of p5 g12
  have hm1 : (cM c1 nD).2.2.2.2.1 = c.2.2.2.2.1 + 2 := by show c1.2.2.2.2.1 + 1 = _; rw [p4]
  have hm2 : (cM (cM c1 nD) (nC 7 2 none 0 4 none)).2.2.2.2.1 = c.2.2.2.2.1 + 3 := by show (cM c1 nD).2.2.2.2.1 + 1 = _; rw [hm1]
  have hm3 : (cM (cM (cM c1 nD) (nC 7 2 none 0 4 none)) (nC 0 0 none 0 1 none)).2.2.2.2.1 = c.2.2.2.2.1 + 4 := by show (cM (cM c1 nD) (nC 7 2 none 0 4 none)).2.2.2.2.1 + 1 = _; rw [hm2]
  have hEx : ∀ q, q < c.2.2.2.2.1 + 3 → (cM (cM (cM c1 nD) (nC 7 2 none 0 4 none)) (nC 0 0 none 0 1 none)).2.2.2.1 q = (cM (cM c1 nD) (nC 7 2 none 0 4 none)).2.2.2.1 q := fun q hq => z2.2.2.2.2.2.1.2.1 q (by rw [hm2]; exact hq)
  have hcifn : (cM (cM (cM c1 nD) (nC 7 2 none 0 4 none)) (nC 0 0 none 0 1 none)).2.2.2.1 (c.2.2.2.2.1 + 1) = some nD := by
    rw [hEx _ (by omega), y2.2.2.2.2.2.1.2.1 _ (by rw [hm1]; omega), ← p4]
    exact eset_eq
  rw [hm1] at y7 y8
  rw [hm2] at y7 y8 z7 z8
  rw [hm3] at z7 z8
  have hcv3 : CV sz at_ dp lc tr (pc + 1) sc c1 (cM (cM (cM c1 nD) (nC 7 2 none 0 4 none)) (nC 0 0 none 0 1 none)) at_ (pc + 1) sc := CV_tr (CV_M x1.1) (CV_tr y2 z2)
  have h231 : (cM (cM (cM c1 nD) (nC 7 2 none 0 4 none)) (nC 0 0 none 0 1 none)).2.1 = c1.2.1 := rfl
  generalize hC3 : cM (cM (cM c1 nD) (nC 7 2 none 0 4 none)) (nC 0 0 none 0 1 none) = c3 at *
  generalize hC2 : cM (cM c1 nD) (nC 7 2 none 0 4 none) = c2 at *
  have hGy : Gc (cM c1 nD) = Gc c := by rw [← hG1]; rfl
  have hGz : Gc c2 = Gc c := by rw [← hG1, ← hC2]; rfl
  rw [hGy] at y8
  rw [hGz] at z8
  have h321 : c3.2.1 = c2.2.1 := by rw [h231, ← hC2]; rfl
  obtain ⟨c3', c4, t1, t2, t3, t4, t5, t6, t7, t8, t9⟩ := wrapJ2 (kd := 3) (x := x) (vl := s) (hh := 1) (tq := tq) (c := c1) (σ := σ1) (c1 := c3) (σ1 := σ3) (a := c.2.2.2.2.1 + 1) (a1 := c.2.2.2.2.1 + 2) (a2 := c.2.2.2.2.1 + 3) (b1 := c.2.2.2.2.1 + 2) (e1 := c.2.2.2.2.1 + 3) (b2 := c.2.2.2.2.1 + 3) (e2 := c.2.2.2.2.1 + 4) (w := pc + 1) (pt := pt + 1) (mid := pt + 1 + 1) (pn1 := pt + 1) (pn2 := pt + 1 + 1) (by decide) z1 (rU_tr y3 z3 (Nat.le_refl _) (by omega)) (by omega) (mv_UL (fun j q a b d => z3.2.2.2.2.1 j q a b d) hEx y7) (UL_x z7) (fun hno => by
    rw [hG1]
    exact mv_nR (fun j q a b d => z3.2.2.2.2.1 j q a b d) hEx (fun j _ _ => by rw [h321]) (Nat.le_refl _) (Nat.le_refl _) (y8 (noF_b z2.2.2.2.2.1 hno))) (fun hno => by rw [hG1]; exact z8 hno) htq hcifn hcv3 (by rw [p4]; exact Nat.le_refl _) (by rw [hm3]; omega) (by rw [p4]; omega) (by rw [hm3]; omega) (Or.inl (by omega)) (by rw [p4]; omega) (by rw [hm3]; exact Nat.le_refl _) (Or.inl (by omega)) (Or.inl (Nat.le_refl _)) (fun hno _ => by
    obtain ⟨j, j1, j2, j3, j4, j5⟩ := hk (noF_b x2.2.2.2.2.1 (by unfold noF at hno ⊢; rw [← h231]; exact hno))
    exact ⟨j, j1, j2, by rw [h231, p5]; exact j3, by rw [h231, p5]; exact j4, by rw [hG1]; exact j5⟩)
  generalize hσ4 : ((upd σ3.1 19 (Int32.ofNat (pt + 1 + 1 + 1 + 1)), w2A σ3.2 (pt + 1 + 1 + 1) 3 x (pt + 1) (pt + 1 + 1)) : gm_S) = σ4 at t8
  obtain ⟨s1, s2, s3, s4⟩ := t9 σ4 (by rw [← hσ4]) (fun j _ _ => by rw [← hσ4])
  have hm4 : c4.2.2.2.2.1 = c.2.2.2.2.1 + 4 := by rw [t5, hm3]
  have hr14 : rU pr pc (pt + 1) tr σ1 σ4 := by
    obtain ⟨q1, q2, q3, q4, q5, q6⟩ := s2
    exact ⟨q1, q2, q3, fun i hi => q4 i (by omega), q5, q6⟩
  have hE4 : ∀ q, q < c.2.2.2.2.1 + 1 → c4.2.2.2.1 q = c1.2.2.2.1 q := fun q hq => t6.2.2.2.2.2.1.2.1 q (by rw [p4]; exact hq)
  rw [p4] at x7 x8
  have a7 := mv_UL (σ2 := σ4) (c2 := c4) (fun j q a b d => hr14.2.2.2.2.1 j q a b d) hE4 x7
  rw [hm4, p4] at s3 s4
  obtain ⟨u1, u2, u3, u4, ug, u5, u6, k1, v1, f1, u7⟩ := a7
  obtain ⟨w1, w2, w3, w4, wg, w5, w6, k2, v2, f2, w7⟩ := s3
  have h26p : σ4.2 26 pt = 2 := by rw [hr14.2.2.2.2.1 26 pt (by decide) (by decide) (by omega)]; exact p8
  have e5nx : (cM (cM c4 nD) nD).2.2.2.2.1 = c.2.2.2.2.1 + 6 := by show c4.2.2.2.2.1 + 1 + 1 = _; rw [hm4]
  have cl5 : ∀ q, q < c.2.2.2.2.1 + 4 → (cM (cM c4 nD) nD).2.2.2.1 q = c4.2.2.2.1 q := fun q hq => by
    show eset (eset _ _ _) _ _ q = _
    rw [eset_ne (by show q ≠ c4.2.2.2.2.1 + 1; omega), eset_ne (by omega)]
  have c5a : (cM (cM c4 nD) nD).2.2.2.1 (c.2.2.2.2.1 + 4) = some nD := by
    show eset (eset _ _ _) _ _ _ = _
    rw [eset_ne (by show _ ≠ c4.2.2.2.2.1 + 1; omega), ← hm4, eset_eq]
  have c5b : (cM (cM c4 nD) nD).2.2.2.1 (c.2.2.2.2.1 + 5) = some nD := by
    show eset (eset _ _ _) (c4.2.2.2.2.1 + 1) _ _ = _
    rw [hm4]
    exact eset_eq
  generalize hC5 : cM (cM c4 nD) nD = c5 at e5nx cl5 c5a c5b
  have hch := chain_eq (c := c5) (a1 := c.2.2.2.2.1) (a2 := some (c.2.2.2.2.1 + 1)) ((cl5 _ (by omega)).trans u7)
  have g0 : (cE c5 c.2.2.2.2.1 (nC k1 v1 f1 (σ4.2 25 pt) (σ4.2 26 pt) (some (c.2.2.2.2.1 + 1)))).2.2.2.1 (c.2.2.2.2.1 + 5) = some nD := by
    show eset _ _ _ _ = _
    rw [eset_ne (by omega), c5b]
  have g1 : (cE c5 c.2.2.2.2.1 (nC k1 v1 f1 (σ4.2 25 pt) (σ4.2 26 pt) (some (c.2.2.2.2.1 + 1)))).2.2.2.1 c.2.2.2.2.1 = some (nC k1 v1 f1 (σ4.2 25 pt) (σ4.2 26 pt) (some (c.2.2.2.2.1 + 1))) := eset_eq
  have g2 : (cE c5 c.2.2.2.2.1 (nC k1 v1 f1 (σ4.2 25 pt) (σ4.2 26 pt) (some (c.2.2.2.2.1 + 1)))).2.2.2.1 (c.2.2.2.2.1 + 1) = some (nC k2 v2 f2 (σ4.2 25 (pt + 1 + 1 + 1)) (σ4.2 26 (pt + 1 + 1 + 1)) none) := by
    show eset _ _ _ _ = _
    rw [eset_ne (by omega), cl5 _ (by omega), w7]
  have hin := init2 (kd := 9) (v := 0) g0 g1 g2 (by omega) (by omega)
  rw [if_neg (by decide)] at hin
  generalize hC6 : cE (cE c5 c.2.2.2.2.1 (nC k1 v1 f1 (σ4.2 25 pt) (σ4.2 26 pt) (some (c.2.2.2.2.1 + 1)))) (c.2.2.2.2.1 + 5) (nC 9 0 (some c.2.2.2.2.1) (0 ||| σ4.2 25 pt ||| σ4.2 25 (pt + 1 + 1 + 1)) (cA 9 0 [(c.2.2.2.2.1, σ4.2 25 pt, σ4.2 26 pt), (c.2.2.2.2.1 + 1, σ4.2 25 (pt + 1 + 1 + 1), σ4.2 26 (pt + 1 + 1 + 1))]) none) = c6 at hin
  have c6q : ∀ q, q ≠ c.2.2.2.2.1 → q ≠ c.2.2.2.2.1 + 5 → c6.2.2.2.1 q = c5.2.2.2.1 q := fun q q1 q2 => by
    rw [← hC6]
    show eset (eset _ _ _) _ _ q = _
    rw [eset_ne q2, eset_ne q1]
  have c6m : c6.2.2.2.1 c.2.2.2.2.1 = some (nC k1 v1 f1 (σ4.2 25 pt) (σ4.2 26 pt) (some (c.2.2.2.2.1 + 1))) := by
    rw [← hC6]
    show eset (eset _ _ _) _ _ _ = _
    rw [eset_ne (by omega), eset_eq]
  have c6s : c6.2.2.2.1 (c.2.2.2.2.1 + 5) = some (nC 9 0 (some c.2.2.2.2.1) (0 ||| σ4.2 25 pt ||| σ4.2 25 (pt + 1 + 1 + 1)) (cA 9 0 [(c.2.2.2.2.1, σ4.2 25 pt, σ4.2 26 pt), (c.2.2.2.2.1 + 1, σ4.2 25 (pt + 1 + 1 + 1), σ4.2 26 (pt + 1 + 1 + 1))]) none) := by
    rw [← hC6]
    exact eset_eq
  have hin2 := init1 (c := c6) (kd := 4) (v := 0) (a := c.2.2.2.2.1 + 4) (by rw [c6q _ (by omega) (by omega)]; exact c5a) c6s (by omega)
  rw [if_neg (by decide)] at hin2
  have hcv7 : CV sz at_ dp lc tr pc sc c c5 at_ (pc + 1) sc := by
    rw [← hC5]
    exact CV_tr x2 (CV_tr t6 (CV_tr (CV_M t6.1) (CV_M (CV_M t6.1).1)))
  have h51 : c5.1 = c4.1 := by rw [← hC5]; rfl
  have h52 : c5.2.1 = c4.2.1 := by rw [← hC5]; rfl
  generalize hC7 : cE c6 (c.2.2.2.2.1 + 4) (nC 4 0 (some (c.2.2.2.2.1 + 5)) (0 ||| (0 ||| σ4.2 25 pt ||| σ4.2 25 (pt + 1 + 1 + 1))) (cA 4 0 [(c.2.2.2.2.1 + 5, 0 ||| σ4.2 25 pt ||| σ4.2 25 (pt + 1 + 1 + 1), cA 9 0 [(c.2.2.2.2.1, σ4.2 25 pt, σ4.2 26 pt), (c.2.2.2.2.1 + 1, σ4.2 25 (pt + 1 + 1 + 1), σ4.2 26 (pt + 1 + 1 + 1))])]) none) = c7 at hin2
  have c7q : ∀ q, q ≠ c.2.2.2.2.1 + 4 → c7.2.2.2.1 q = c6.2.2.2.1 q := fun q q1 => by rw [← hC7]; exact eset_ne q1
  have c7l : c7.2.2.2.1 (c.2.2.2.2.1 + 4) = some (nC 4 0 (some (c.2.2.2.2.1 + 5)) (0 ||| (0 ||| σ4.2 25 pt ||| σ4.2 25 (pt + 1 + 1 + 1))) (cA 4 0 [(c.2.2.2.2.1 + 5, 0 ||| σ4.2 25 pt ||| σ4.2 25 (pt + 1 + 1 + 1), cA 9 0 [(c.2.2.2.2.1, σ4.2 25 pt, σ4.2 26 pt), (c.2.2.2.2.1 + 1, σ4.2 25 (pt + 1 + 1 + 1), σ4.2 26 (pt + 1 + 1 + 1))])]) none) := by rw [← hC7]; exact eset_eq
  have h71 : c7.1 = c4.1 := by rw [← hC7, ← hC6, ← h51]; rfl
  have h72 : c7.2.1 = c4.2.1 := by rw [← hC7, ← hC6, ← h52]; rfl
  have hm7 : c7.2.2.2.2.1 = c.2.2.2.2.1 + 6 := by rw [← hC7, ← hC6, ← e5nx]; rfl
  have hcvF : CV sz at_ dp lc tr pc sc c c7 at_ (pc + 1) sc := by
    rw [← hC7, ← hC6]
    exact CV_E (CV_E (CV_E hcv7 (by omega)) (by omega)) (by omega)
  have h19 : σ4.1 19 = Int32.ofNat (pt + 4) := s1.2.2.2.2.2.2.2.2.2.2.1
  have r5 := w2_eq (kd := 9) (x := -1) (pn1 := pt) (pn2 := pt + 1 + 1 + 1) h19 (by omega) (by omega) (by omega) (by omega)
  have r6 := w1_eq (kd := 4) (x := -1) (σ := (upd σ4.1 19 (Int32.ofNat (pt + 4 + 1)), w2A σ4.2 (pt + 4) 9 (-1) pt (pt + 1 + 1 + 1))) (n := pt + 5) (pn1 := pt + 4) (upd_eq : upd σ4.1 19 (Int32.ofNat (pt + 4 + 1)) 19 = _) (by omega) (by omega)
  have hwat : sp_Md_waiting x (Int32.ofNat start) σ = some (Int32.ofNat (pt + 5), (upd (upd σ4.1 19 (Int32.ofNat (pt + 4 + 1))) 19 (Int32.ofNat (pt + 5 + 1)), w1A (w2A σ4.2 (pt + 4) 9 (-1) pt (pt + 1 + 1 + 1)) (pt + 5) 4 (-1) (pt + 4))) := by
    unfold sp_Md_waiting
    rw [p1]
    simp only
    rw [e1]
    simp only
    rw [n1]
    simp only
    rw [t8]
    simp only
    rw [r5]
    simp only
    rw [r6]
  have hcls : sp_Rd_newWatch s (Int32.ofNat start) c = some (some (c.2.2.2.2.1 + 4), c7) := by
    have e2' : sp_Rd_newExit 2 (c1.1, c1.2.1, c1.2.2.1, (eset c1.2.2.2.1 c1.2.2.2.2.1 (.inr (2, gx_def gx_kd2))), (c1.2.2.2.2.1 + 1), (c1.2.2.2.2.2 + 6)) = some (some (c.2.2.2.2.1 + 2), c2) := by rw [hm1] at e2; exact e2
    unfold sp_Rd_newWatch
    rw [p2]
    simp only
    rw [e2']
    simp only
    rw [n2]
    simp only
    rw [hm2, t1]
    simp only
    rw [p4, t2]
    simp only
    have e5 : ((c4.1, c4.2.1, c4.2.2.1, (eset (eset c4.2.2.2.1 c4.2.2.2.2.1 (.inr (2, gx_def gx_kd2))) (c4.2.2.2.2.1 + 1) (.inr (2, gx_def gx_kd2))), ((c4.2.2.2.2.1 + 1) + 1), ((c4.2.2.2.2.2 + 6) + 6)) : ck_S) = c5 := hC5
    have hin' : sp_Node_init (c.2.2.2.2.1 + 4 + 1) 9 0 (some c.2.2.2.2.1) (cE c5 c.2.2.2.2.1 (nC k1 v1 f1 (σ4.2 25 pt) (σ4.2 26 pt) (some (c.2.2.2.2.1 + 1)))) = some c6 := hin
    have hin2' : sp_Node_init (c.2.2.2.2.1 + 4) 4 0 (some (c.2.2.2.2.1 + 4 + 1)) c6 = some c7 := hin2
    rw [e5, hch, hm4]
    simp only
    rw [hin']
    simp only
    rw [hin2']
  have hQ5 := QR_w (x := 0) s1 (A' := w2A σ4.2 (pt + 4) 9 (-1) pt (pt + 1 + 1 + 1)) (fun j hj => w2_o hj)
  have hQ6 := QR_w (x := 0) hQ5 (A' := w1A (w2A σ4.2 (pt + 4) 9 (-1) pt (pt + 1 + 1 + 1)) (pt + 5) 4 (-1) (pt + 4)) (fun j hj => w1_o hj)
  have hU5 := rU_w (σ := σ4) (pr := pr) (pc := pc) (pt := pt) (tr := tr) (x := 0) (pt1 := pt + 4) (A' := w2A σ4.2 (pt + 4) 9 (-1) pt (pt + 1 + 1 + 1)) (fun j hj => w2_o hj) (fun j q _ _ hq => w2_ne (by omega) (by omega) (by omega) w5 (by omega) (Or.inr (by omega)))
  have z24 := (w2_24 (A := σ4.2) (n := pt + 4) (pn1 := pt) (pn2 := pt + 1 + 1 + 1) (kd := 9) (x := -1) (by omega) (by omega) (by omega) (by omega)).1
  have hU6 := rU_w (σ := (upd (upd σ4.1 19 (Int32.ofNat (pt + 4 + 1))) 34 0, w2A σ4.2 (pt + 4) 9 (-1) pt (pt + 1 + 1 + 1))) (pr := pr) (pc := pc) (pt := pt) (tr := tr) (x := 0) (pt1 := pt + 5) (A' := w1A (w2A σ4.2 (pt + 4) 9 (-1) pt (pt + 1 + 1 + 1)) (pt + 5) 4 (-1) (pt + 4)) (fun j hj => w1_o hj) (fun j q _ _ hq => w1_ne (by omega) (by omega) z24 (by omega))
  have hRU : rU pr pc pt tr σ (upd (upd (upd (upd σ4.1 19 (Int32.ofNat (pt + 4 + 1))) 34 0) 19 (Int32.ofNat (pt + 5 + 1))) 34 0, w1A (w2A σ4.2 (pt + 4) 9 (-1) pt (pt + 1 + 1 + 1)) (pt + 5) 4 (-1) (pt + 4)) := rU_tr (rU_tr (rU_tr x3 hr14 (Nat.le_refl _) (by omega)) hU5 (Nat.le_refl _) (Nat.le_refl _)) hU6 (Nat.le_refl _) (Nat.le_refl _)
  have hnum : ∀ j, j ≠ 34 → j ≠ 35 → upd (upd σ4.1 19 (Int32.ofNat (pt + 4 + 1))) 19 (Int32.ofNat (pt + 5 + 1)) j = (upd (upd (upd (upd σ4.1 19 (Int32.ofNat (pt + 4 + 1))) 34 0) 19 (Int32.ofNat (pt + 5 + 1))) 34 0) j := fun j j1 j2 => by
    rw [upd_ne j1]
    unfold upd
    by_cases q : j = 19 <;> simp [q, j1]
  have E1m : eset c7.2.2.2.1 c.2.2.2.2.1 (nC k1 v1 f1 (σ4.2 25 pt) (σ4.2 26 pt) none) c.2.2.2.2.1 = some (nC k1 v1 f1 (σ4.2 25 pt) (σ4.2 26 pt) none) := eset_eq
  have E1q : ∀ q, q ≠ c.2.2.2.2.1 → eset c7.2.2.2.1 c.2.2.2.2.1 (nC k1 v1 f1 (σ4.2 25 pt) (σ4.2 26 pt) none) q = c7.2.2.2.1 q := fun q q1 => eset_ne q1
  have E14 : ∀ q, q < c.2.2.2.2.1 + 4 → eset c7.2.2.2.1 c.2.2.2.2.1 (nC k1 v1 f1 (σ4.2 25 pt) (σ4.2 26 pt) none) q = c4.2.2.2.1 q := fun q hq => by
    by_cases hqm : q = c.2.2.2.2.1
    · rw [hqm, E1m, u7]
    · rw [E1q q hqm, c7q q (by omega), c6q q hqm (by omega), cl5 q hq]
  have hw2 := with2 (kd := 9) (x := -1) (A := σ4.2) (n := pt + 4) (E1 := eset c7.2.2.2.1 c.2.2.2.2.1 (nC k1 v1 f1 (σ4.2 25 pt) (σ4.2 26 pt) none)) (E2 := c7.2.2.2.1) (β := c7.2.1 3) (Γ := Gc c) (t := tq) (hh := 2) (a := c.2.2.2.2.1 + 5) (a1 := c.2.2.2.2.1) (a2 := c.2.2.2.2.1 + 1) (lo := pt) (mid := pt + 1) (alo := c.2.2.2.2.1) (ahi := c.2.2.2.2.1 + 6) (b1 := c.2.2.2.2.1) (e1 := c.2.2.2.2.1 + 1) (b2 := c.2.2.2.2.1 + 1) (e2 := c.2.2.2.2.1 + 4) (pn1 := pt) (pn2 := pt + 1 + 1 + 1) (vl := 0) (u := pc) (w := pc + 1) (v := pc + 1) (by decide) (by omega) (by omega) (by omega) (by omega) (by omega) u5 w5 u6 w6 htq (by omega) (by omega) (by omega) (by omega) (Or.inr (by omega)) (by omega) (by omega) (Or.inr (by omega)) (by omega) (by omega) (by omega) (by omega) (by omega) (Or.inl (Nat.le_refl _)) E1m (by rw [E14 _ (by omega)]; exact w7) (by rw [c7q _ (by omega)]; exact c6s) (by rw [c7q _ (by omega)]; exact c6m) (fun q q1 q2 q3 => (E1q q q3).symm) (fun q q1 q2 => (E1q q (by omega)).symm)
  have hsq := hw2.2.1
  have hsq0 : c7.2.2.2.1 (c.2.2.2.2.1 + 5) = _ := (c7q _ (by omega)).trans c6s
  rw [hsq0] at hsq
  obtain ⟨hws, hos⟩ := nC_inj hsq
  have hw1 := with1 (kd := 4) (x := -1) (A := w2A σ4.2 (pt + 4) 9 (-1) pt (pt + 1 + 1 + 1)) (n := pt + 5) (pn1 := pt + 4) (E1 := c7.2.2.2.1) (E2 := c7.2.2.2.1) (β := c7.2.1 3) (Γ := Gc c) (Γ1 := Gc c) (t := tq) (t1 := tq) (hh := 3) (a := c.2.2.2.2.1 + 4) (a1 := c.2.2.2.2.1 + 5) (lo := pt) (alo := c.2.2.2.2.1) (ahi := c.2.2.2.2.1 + 6) (alo1 := c.2.2.2.2.1) (ahi1 := c.2.2.2.2.1 + 6) (vl := 0) (u := pc) (v := pc + 1) (by decide) (by omega) (by omega) (by omega) z24 hw2.1 htq (by omega) (by omega) (by omega) (by omega) (Or.inr (Or.inr ⟨by omega, by omega, rfl⟩)) (by omega) (by omega) hw2.2.1 (by rw [← hws, ← hos]; exact c7l) (fun q _ _ => rfl)
  have hQf : QR sz at_ dp lc tr pr (pc + 1) sc (pt + 6) (upd (upd σ4.1 19 (Int32.ofNat (pt + 4 + 1))) 19 (Int32.ofNat (pt + 5 + 1)), w1A (w2A σ4.2 (pt + 4) 9 (-1) pt (pt + 1 + 1 + 1)) (pt + 5) 4 (-1) (pt + 4)) c7 := QR_h (QR_r hQ6 hnum (fun _ _ => rfl)) h71 h72
  refine ⟨_, c7, hwat, hcls, hQf, hcvF, rU_r hRU hnum rfl, hm7, by rw [h72, t4, h231, p5], ?_, fun hno => ?_⟩
  · rw [hm7]
    exact ⟨by omega, by omega, by omega, by omega, w1_24 (by omega) (by omega), hw1.1, 4, 0, some (c.2.2.2.2.1 + 5), hw1.2.1⟩
  · have hno4 : noF c4 := by unfold noF at hno ⊢; rw [← h72]; exact hno
    have hβ : c7.2.1 3 = c1.2.1 3 := by rw [h72, t4, h231]
    have hno1 : noF c1 := noF_b t6.2.2.2.2.1 hno4
    have n1' := mv_nR (β' := c7.2.1 3) (fun j q a b d => hr14.2.2.2.2.1 j q a b d) (fun q hq => (E14 q (by omega)).trans (hE4 q hq)) (fun j _ _ => by rw [hβ]) (Nat.le_refl _) (Nat.le_refl _) (x8 hno1)
    have s4' := s4 hno4
    rw [hG1] at s4'
    have n2' := mv_nR (T' := σ4.2) (β' := c7.2.1 3) (fun _ _ _ _ _ => rfl) E14 (fun j _ _ => by rw [h72]) (Nat.le_refl _) (Nat.le_refl _) s4'
    have hseq := hw2.2.2 n1' n2' (fun e => absurd e (by decide))
    rw [hm7]
    exact hw1.2.2 hseq (by rw [if_neg (by decide)]) (by rw [if_neg (by decide)]) (fun _ => by rw [w2_26, h26p, oS92]; exact b2_0) (fun e => absurd e (by decide)) (fun e => absurd e (by decide))
end J15
