section J23
variable {sz at_ dp lc tr pr pc sc pt n : Nat} {σ : gm_S} {c : ck_S} {f : gm_S → Option (Int32 × gm_S)} {g : ck_S → Option (Option Nat × ck_S)}
def rTail (x start p : Int32) (σ : gm_S) : Option (Int32 × gm_S) := (match sp_Md_makePart 7 (-1) 2 σ with
  | none => none
  | some y7 => (match sp_Md_with 9 (-1) p y7.1 y7.2 with
    | none => none
    | some y8 => (match sp_Md_waiting x start y8.2 with
      | none => none
      | some y9 => (match sp_Md_with 10 (-1) y8.1 y9.1 y9.2 with
        | none => none
        | some y10 => (match sp_Md_with 6 (-1) y10.1 (-1) y10.2 with
          | none => none
          | some y11 => some (1, ((upd y11.2.1 34 y11.1), y11.2.2)))))))
def cTail (s start : Int32) (b : Option Nat) (cg : ck_S) : Option (Option Nat × ck_S) := (match sp_Rd_newExit 2 (cg.1, cg.2.1, cg.2.2.1, (eset cg.2.2.2.1 cg.2.2.2.2.1 (.inr (2, gx_def gx_kd2))), (cg.2.2.2.2.1 + 1), (cg.2.2.2.2.2 + 6)) with
  | none => none
  | some y4 => (match sp_Rd_chain b y4.1 y4.2 with
    | none => none
    | some y5 => (match sp_Node_init cg.2.2.2.2.1 9 0 y5.1 y5.2 with
      | none => none
      | some y6 => (match sp_Rd_newWatch s start (y6.1, y6.2.1, y6.2.2.1, (eset y6.2.2.2.1 y6.2.2.2.2.1 (.inr (2, gx_def gx_kd2))), (y6.2.2.2.2.1 + 1), (y6.2.2.2.2.2 + 6)) with
        | none => none
        | some y7 => (match sp_Rd_chain (some cg.2.2.2.2.1) y7.1 y7.2 with
          | none => none
          | some y8 => (match sp_Node_init y6.2.2.2.2.1 10 0 y8.1 y8.2 with
            | none => none
            | some y9 => (match sp_Node_init y9.2.2.2.2.1 6 0 (some y6.2.2.2.2.1) (y9.1, y9.2.1, y9.2.2.1, (eset y9.2.2.2.1 y9.2.2.2.2.1 (.inr (2, gx_def gx_kd2))), (y9.2.2.2.2.1 + 1), (y9.2.2.2.2.2 + 6)) with
              | none => none
              | some y10 => some ((some y9.2.2.2.2.1), y10))))))))
theorem tail_t {s : Int32} {start ag : Nat} {cg : ck_S} (h : CW sz at_ dp lc tr pc sc cg) (hp : pc + 1 ≤ at_) (hs : start ≤ 500) (hn : NN cg ag) (hlt : ag < cg.2.2.2.2.1) : ∃ a c', cTail s (Int32.ofNat start) (some ag) cg = some (some a, c') ∧ (cg.2.1 2 1 ≠ 501 → c'.2.1 2 1 = cg.2.1 2 1) := by
  obtain ⟨k1, v1, f1, w1, o1, e1⟩ := hn
  have x1 : sp_Rd_newExit 2 (cg.1, cg.2.1, cg.2.2.1, (eset cg.2.2.2.1 cg.2.2.2.2.1 (.inr (2, gx_def gx_kd2))), (cg.2.2.2.2.1 + 1), (cg.2.2.2.2.2 + 6)) = some (some (cg.2.2.2.2.1 + 1), cM (cM cg nD) (nC 7 2 none 0 4 none)) := exit_eq (c := cM cg nD)
  unfold cTail
  rw [x1]
  simp only
  have g1 : (cM (cM cg nD) (nC 7 2 none 0 4 none)).2.2.2.1 ag = some (nC k1 v1 f1 w1 o1 none) := by
    show eset (eset _ _ _) (cg.2.2.2.2.1 + 1) _ ag = _
    rw [eset_ne (by omega), eset_ne (by omega), e1]
  rw [chain_eq g1]
  simp only
  have h0 : (cE (cM (cM cg nD) (nC 7 2 none 0 4 none)) ag (nC k1 v1 f1 w1 o1 (some (cg.2.2.2.2.1 + 1)))).2.2.2.1 cg.2.2.2.2.1 = some nD := by
    show eset (eset (eset _ _ _) (cg.2.2.2.2.1 + 1) _) _ _ _ = _
    rw [eset_ne (by omega), eset_ne (by omega), eset_eq]
  have h1 : (cE (cM (cM cg nD) (nC 7 2 none 0 4 none)) ag (nC k1 v1 f1 w1 o1 (some (cg.2.2.2.2.1 + 1)))).2.2.2.1 ag = some (nC k1 v1 f1 w1 o1 (some (cg.2.2.2.2.1 + 1))) := eset_eq
  have h2 : (cE (cM (cM cg nD) (nC 7 2 none 0 4 none)) ag (nC k1 v1 f1 w1 o1 (some (cg.2.2.2.2.1 + 1)))).2.2.2.1 (cg.2.2.2.2.1 + 1) = some (nC 7 2 none 0 4 none) := by
    show eset (eset (eset _ _ _) (cg.2.2.2.2.1 + 1) _) _ _ _ = _
    rw [eset_ne (by omega), eset_eq]
  rw [init2 (kd := 9) (v := 0) h0 h1 h2 (by omega) (by omega)]
  simp only
  generalize hC6 : cE (cE (cM (cM cg nD) (nC 7 2 none 0 4 none)) ag (nC k1 v1 f1 w1 o1 (some (cg.2.2.2.2.1 + 1)))) cg.2.2.2.2.1 _ = c6
  have h6c : CW sz at_ dp lc tr pc sc c6 := by rw [← hC6]; exact h
  have h6n : c6.2.2.2.2.1 = cg.2.2.2.2.1 + 2 := by rw [← hC6]; rfl
  have h6a : c6.2.1 = cg.2.1 := by rw [← hC6]; rfl
  have h6s : NN c6 cg.2.2.2.2.1 := by rw [← hC6]; exact ⟨_, _, _, _, _, eset_eq⟩
  have hm6 := CV_M (z := nD) h6c
  obtain ⟨bw, cw, p1, at2, pc2, sc2, y1, y2, y3, y4, y5, y6⟩ := watch_cx (start := start) (v1 := s) hm6.1 hp hs
  have p1' : sp_Rd_newWatch s (Int32.ofNat start) (c6.1, c6.2.1, c6.2.2.1, (eset c6.2.2.2.1 c6.2.2.2.2.1 (.inr (2, gx_def gx_kd2))), (c6.2.2.2.2.1 + 1), (c6.2.2.2.2.2 + 6)) = some (some bw, cw) := p1
  rw [p1']
  simp only
  have em6 : (cM c6 nD).2.2.2.2.1 = c6.2.2.2.2.1 + 1 := rfl
  rw [em6] at y4
  obtain ⟨k2, v2, f2, w2, o2, e2⟩ := h6s
  have g2 : cw.2.2.2.1 cg.2.2.2.2.1 = some (nC k2 v2 f2 w2 o2 none) := by
    rw [y1.2.2.2.2.2.1.2.1 _ (by rw [em6, h6n]; omega)]
    show eset _ _ _ _ = _
    rw [eset_ne (by omega), e2]
  rw [chain_eq g2]
  simp only
  obtain ⟨k3, v3, f3, w3, o3, e3⟩ := y6
  have i0 : (cE cw cg.2.2.2.2.1 (nC k2 v2 f2 w2 o2 (some bw))).2.2.2.1 c6.2.2.2.2.1 = some nD := by
    show eset _ _ _ _ = _
    rw [eset_ne (by omega), y1.2.2.2.2.2.1.2.1 _ (by rw [em6]; omega)]
    exact eset_eq
  have i2 : (cE cw cg.2.2.2.2.1 (nC k2 v2 f2 w2 o2 (some bw))).2.2.2.1 bw = some (nC k3 v3 f3 w3 o3 none) := by
    show eset _ _ _ _ = _
    rw [eset_ne (by omega), e3]
  rw [init2 (kd := 10) (v := 0) i0 eset_eq i2 (by omega) (by omega)]
  simp only
  generalize hC9 : cE (cE cw cg.2.2.2.2.1 (nC k2 v2 f2 w2 o2 (some bw))) c6.2.2.2.2.1 _ = c9
  have h9n : c9.2.2.2.2.1 = cw.2.2.2.2.1 := by rw [← hC9]; rfl
  have h9a : c9.2.1 = cw.2.1 := by rw [← hC9]; rfl
  have hle := y1.2.2.2.2.2.1.1
  rw [em6] at hle
  have h9q : NN c9 c6.2.2.2.2.1 := by rw [← hC9]; exact ⟨_, _, _, _, _, eset_eq⟩
  have h9s : NN (cM c9 nD) c6.2.2.2.2.1 := by
    obtain ⟨k, v, f, w, o, e⟩ := h9q
    refine ⟨k, v, f, w, o, ?_⟩
    show eset _ _ _ _ = _
    rw [eset_ne (by omega), e]
  obtain ⟨c', z1, z2⟩ := initN (c := cM c9 nD) (a := c9.2.2.2.2.1) (kd := 6) (v := 0) eset_eq h9s (by omega)
  have z1' : sp_Node_init c9.2.2.2.2.1 6 0 (some c6.2.2.2.2.1) (c9.1, c9.2.1, c9.2.2.1, (eset c9.2.2.2.1 c9.2.2.2.2.1 (.inr (2, gx_def gx_kd2))), (c9.2.2.2.2.1 + 1), (c9.2.2.2.2.2 + 6)) = some c' := z1
  rw [z1']
  refine ⟨_, _, rfl, fun hb => ?_⟩
  have e9 : (cM c9 nD).2.1 = cw.2.1 := h9a
  rw [z2, e9, y1.2.2.2.2.1.2.2.2.2.2.2.1 (by show c6.2.1 2 1 ≠ 501; rw [h6a]; exact hb)]
  show c6.2.1 2 1 = _
  rw [h6a]
theorem tail_j {s x : Int32} {start hh at' pc' sc' pta pa aa : Nat} {σa : gm_S} {ca : ck_S} (hQ : QR sz at' dp lc tr pr pc' sc' pta σa ca) (hcv : CV sz at_ dp lc tr pc sc c ca at' pc' sc') (hrU : rU pr pc pt tr σ σa) (hU : UL σa ca pa aa pt pta c.2.2.2.2.1 ca.2.2.2.2.1) (hn : noF ca → nR σa.2 ca.2.2.2.1 (ca.2.1 3) hh (Gc c) (tr + 1) ((Int32.ofNat pa, aa), (pt, pta), (c.2.2.2.2.1, ca.2.2.2.2.1), (pc, pc'))) (hh3 : noF ca → 3 ≤ hh) (hh1 : 1 ≤ hh) (hW : CW sz at_ dp lc tr pc sc c) (hp : pc' + 1 ≤ at') (hs : start ≤ 500) (hp26 : pta + 10 ≤ 2600) (htr : tr ≤ 12) (hk : noF ca → ∃ j, j < 26 ∧ x = Int32.ofNat j ∧ s = ca.2.1 3 j ∧ ca.2.1 3 j ≠ 0 ∧ Gc c j = true) : ∃ σ' c', rTail x (Int32.ofNat start) (Int32.ofNat pa) σa = some (1, σ') ∧ cTail s (Int32.ofNat start) (some aa) ca = some (some (ca.2.2.2.2.1 + 9), c') ∧ σ'.1 34 = Int32.ofNat (pta + 9) ∧ QR sz at' dp lc tr pr (pc' + 1) sc' (pta + 10) σ' c' ∧ CV sz at_ dp lc tr pc sc c c' at' (pc' + 1) sc' ∧ rU pr pc pt tr σ σ' ∧ UL σ' c' (pta + 9) (ca.2.2.2.2.1 + 9) pt (pta + 10) c.2.2.2.2.1 c'.2.2.2.2.1 ∧ (noF c' → nR σ'.2 c'.2.2.2.1 (c'.2.1 3) (hh + 3) (Gc c) tr ((Int32.ofNat (pta + 9), ca.2.2.2.2.1 + 9), (pt, pta + 10), (c.2.2.2.2.1, c'.2.2.2.2.1), (pc, pc' + 1))) := by
  have hle := hcv.2.2.2.2.2.1.1
  have hpa : pt ≤ pa ∧ pa < pta := ⟨hU.1, hU.2.1⟩
  have g12 : ca.1 12 = c.1 12 := hcv.2.2.2.2.1.1 12 (by decide) (by decide) (by decide)
  have hGa : ∀ l, l < 26 → Gc ca l = Gc c l := Gc_eq hcv hW g12
  have hQ1 : QR sz at' dp lc tr pr pc' sc' pta σa (cM ca nD) := QR_h hQ rfl rfl
  obtain ⟨e1, e2, e3⟩ := exit2_j (hh := hh) (tq := tr + 1) hh1 hQ1 (by omega) (by omega) (by omega)
  generalize hσ2 : ((upd σa.1 19 (Int32.ofNat (pta + 1)), mkA σa.2 pta 7 (-1) 2) : gm_S) = σ2 at e1 e3
  obtain ⟨y1, y2, y3, _, _, _, y7, y8⟩ := e3
  have n1 : (cM ca nD).2.2.2.2.1 = ca.2.2.2.2.1 + 1 := rfl
  have n2 : (cM (cM ca nD) (nC 7 2 none 0 4 none)).2.2.2.2.1 = ca.2.2.2.2.1 + 2 := rfl
  rw [n1, n2] at y7 y8
  have hE2 : ∀ q, q < ca.2.2.2.2.1 → (cM (cM ca nD) (nC 7 2 none 0 4 none)).2.2.2.1 q = ca.2.2.2.1 q := fun q hq => by
    show eset (eset _ _ _) (ca.2.2.2.2.1 + 1) _ q = _
    rw [eset_ne (by omega), eset_ne (by omega)]
  have hcl2 : (cM (cM ca nD) (nC 7 2 none 0 4 none)).2.2.2.1 ca.2.2.2.2.1 = some nD := by
    show eset (eset _ _ _) (ca.2.2.2.2.1 + 1) _ _ = _
    rw [eset_ne (by omega), eset_eq]
  have hcv2 : CV sz at_ dp lc tr pc sc c (cM (cM ca nD) (nC 7 2 none 0 4 none)) at' pc' sc' := CV_tr hcv (CV_tr (CV_M hQ.1) y2)
  have hU2 : ∀ j q, 20 ≤ j → j ≤ 26 → q < pta → σ2.2 j q = σa.2 j q := fun j q a b d => y3.2.2.2.2.1 j q a b d
  have h22 : (cM (cM ca nD) (nC 7 2 none 0 4 none)).2.1 = ca.2.1 := rfl
  have hGy : Gc (cM ca nD) = Gc ca := rfl
  rw [hGy] at y8
  generalize hC2 : cM (cM ca nD) (nC 7 2 none 0 4 none) = c2 at *
  obtain ⟨c3, c4, t1, t2, t3, t4, t5, t6, t7, t8, t9⟩ := wrapJ2 (kd := 9) (x := -1) (vl := 0) (hh := hh) (tq := tr + 1) (c := c) (σ := σ) (c1 := c2) (σ1 := σ2) (a := ca.2.2.2.2.1) (a1 := aa) (a2 := ca.2.2.2.2.1 + 1) (b1 := c.2.2.2.2.1) (e1 := ca.2.2.2.2.1) (b2 := ca.2.2.2.2.1 + 1) (e2 := ca.2.2.2.2.1 + 2) (w := pc') (pt := pt) (mid := pta) (pn1 := pa) (pn2 := pta) (by decide) y1 (rU_tr hrU y3 hcv.2.2.1 (by omega)) (by omega) (mv_UL hU2 hE2 hU) (UL_x y7) (fun hno => mv_nR hU2 hE2 (fun j _ _ => by rw [h22]) (Nat.le_refl _) (Nat.le_refl _) (hn (by unfold noF at hno ⊢; rw [← h22]; exact hno))) (fun hno => nR_G _ _ _ _ _ hGa (y8 hno)) (by omega) hcl2 hcv2 (by omega) (by rw [n2]; omega) (Nat.le_refl _) (by rw [n2]; omega) (Or.inr (Nat.le_refl _)) (by omega) (by rw [n2]; exact Nat.le_refl _) (Or.inl (by omega)) (Or.inl (by omega)) (fun _ e => absurd e (by decide))
  generalize hσ3 : ((upd σ2.1 19 (Int32.ofNat (pta + 1 + 1)), w2A σ2.2 (pta + 1) 9 (-1) pa pta) : gm_S) = σ3 at t8
  obtain ⟨s1, s2, s3, s4⟩ := t9 σ3 (by rw [← hσ3]) (fun j _ _ => by rw [← hσ3])
  have n4 : c4.2.2.2.2.1 = ca.2.2.2.2.1 + 2 := by rw [t5, n2]
  have g412 : c4.1 12 = c.1 12 := t6.2.2.2.2.1.1 12 (by decide) (by decide) (by decide)
  have hG4 : ∀ l, l < 26 → Gc c4 l = Gc c l := Gc_eq t6 hW g412
  have h42 : c4.2.1 = ca.2.1 := by rw [t4, h22]
  rw [n4] at s3 s4
  have hQ4 : QR sz at' dp lc tr pr pc' sc' (pta + 1 + 1) σ3 (cM c4 nD) := QR_h s1 rfl rfl
  obtain ⟨σ5, c5, w1, w2, w3, w4, w5, w6, w7, w8, w9⟩ := watch_j (start := start) (tq := tr + 1) (x := x) (s := s) hQ4 hp hs (by omega) (by omega) (by omega) (fun hno => by
    obtain ⟨j, j1, j2, j3, j4, j5⟩ := hk (by unfold noF at hno ⊢; rw [← h42]; exact hno)
    have hGj : Gc (cM c4 nD) j = Gc c j := hG4 j j1
    exact ⟨j, j1, j2, by show s = c4.2.1 3 j; rw [h42]; exact j3, by show c4.2.1 3 j ≠ 0; rw [h42]; exact j4, by rw [hGj]; exact j5⟩)
  have n4' : (cM c4 nD).2.2.2.2.1 = ca.2.2.2.2.1 + 3 := by show c4.2.2.2.2.1 + 1 = _; rw [n4]
  rw [n4'] at w2 w6 w8 w9
  have hE5 : ∀ q, q < ca.2.2.2.2.1 + 2 → c5.2.2.2.1 q = c4.2.2.2.1 q := fun q hq => by
    rw [w4.2.2.2.2.2.1.2.1 q (by rw [n4']; omega)]
    show eset _ _ _ q = _
    rw [eset_ne (by omega)]
  have hcl5 : c5.2.2.2.1 (ca.2.2.2.2.1 + 2) = some nD := by
    rw [w4.2.2.2.2.2.1.2.1 _ (by rw [n4']; omega), ← n4]
    exact eset_eq
  have hU5 : ∀ j q, 20 ≤ j → j ≤ 26 → q < pta + 1 + 1 → σ5.2 j q = σ3.2 j q := fun j q a b d => w5.2.2.2.2.1 j q a b d
  have hcv5 : CV sz at_ dp lc tr pc sc c c5 at' (pc' + 1) sc' := CV_tr t6 (CV_tr (CV_M t6.1) w4)
  have hG4' : ∀ l, l < 26 → Gc (cM c4 nD) l = Gc c l := hG4
  obtain ⟨c6, c7, u1, u2, u3, u4, u5, u6, u7, u8, u9⟩ := wrapJ2 (kd := 10) (x := -1) (vl := 0) (hh := hh + 1) (tq := tr + 1) (c := c) (σ := σ) (c1 := c5) (σ1 := σ5) (a := ca.2.2.2.2.1 + 2) (a1 := ca.2.2.2.2.1) (a2 := ca.2.2.2.2.1 + 3 + 4) (b1 := c.2.2.2.2.1) (e1 := ca.2.2.2.2.1 + 2) (b2 := ca.2.2.2.2.1 + 3) (e2 := c5.2.2.2.2.1) (w := pc') (pt := pt) (mid := pta + 1 + 1) (pn1 := pta + 1) (pn2 := pta + 1 + 1 + 5) (by decide) w3 (rU_tr s2 w5 hcv.2.2.1 (by omega)) (by omega) (mv_UL hU5 hE5 s3) w8 (fun hno => mv_nR hU5 hE5 (fun j _ _ => by rw [w7]; rfl) (Nat.le_refl _) (Nat.le_refl _) (s4 (noF_b w4.2.2.2.2.1 hno))) (fun hno => nR_mono _ _ _ _ _ (by
      have h5 := hh3 (by have := noF_b (c := cM c4 nD) w4.2.2.2.2.1 hno; unfold noF at this ⊢; rw [← h42]; exact this)
      omega) (nR_G _ _ _ _ _ hG4' (w9 hno))) (by omega) hcl5 hcv5 (by omega) (by rw [w6]; omega) (Nat.le_refl _) (by rw [w6]; omega) (Or.inr (Nat.le_refl _)) (by omega) (Nat.le_refl _) (Or.inl (by omega)) (Or.inl (by omega)) (fun _ e => absurd e (by decide))
  generalize hσ6 : ((upd σ5.1 19 (Int32.ofNat (pta + 1 + 1 + 6 + 1)), w2A σ5.2 (pta + 1 + 1 + 6) 10 (-1) (pta + 1) (pta + 1 + 1 + 5)) : gm_S) = σ6 at u8
  obtain ⟨v1, v2, v3, v4⟩ := u9 σ6 (by rw [← hσ6]) (fun j _ _ => by rw [← hσ6])
  have n7 : c7.2.2.2.2.1 = ca.2.2.2.2.1 + 9 := by rw [u5, w6]
  have hE7 : ∀ q, q < c7.2.2.2.2.1 → (cM c7 nD).2.2.2.1 q = c7.2.2.2.1 q := fun q hq => eset_ne (by omega)
  have hn7 : (cM c7 nD).2.2.2.2.1 = c7.2.2.2.2.1 + 1 := rfl
  obtain ⟨c8, z1, z2, z3, z4, z5, z6, z7, z8⟩ := wrapG1 (kd := 6) (x := -1) (vl := 0) (hh := hh + 1 + 1) (tq := tr) (t1 := tr + 1) (Γ1 := Gc c) (σ := σ) (c := c) (c1 := cM c7 nD) (σ1 := σ6) (a := c7.2.2.2.2.1) (pc := pc) (sc := sc) (at_ := at_) (by decide) (QR_h v1 rfl rfl) v2 (by omega) (UL_x (mv_UL (fun _ _ _ _ _ => rfl) hE7 v3)) (fun hno => mv_nR (fun _ _ _ _ _ => rfl) hE7 (fun _ _ _ => rfl) (Nat.le_refl _) (Nat.le_refl _) (v4 hno)) (by omega) eset_eq (CV_tr u6 (CV_M u6.1)) (by rw [n7]; omega) (by rw [hn7]; omega) (Nat.le_refl _) (by rw [hn7]; omega) (Or.inr (Nat.le_refl _)) (Or.inr hn7.symm) (by rw [if_neg (by decide)]) (by rw [if_pos rfl]) (fun _ e => absurd e (by decide)) (fun _ e => absurd e (by decide)) (fun _ e => absurd e (by decide))
  obtain ⟨x1, x2, x3, x4⟩ := z8 (upd (upd σ6.1 19 (Int32.ofNat (pta + 1 + 1 + 6 + 1 + 1))) 34 (Int32.ofNat (pta + 1 + 1 + 6 + 1)), w1A σ6.2 (pta + 1 + 1 + 6 + 1) 6 (-1) (pta + 1 + 1 + 6)) rfl (fun j j1 _ => upd_ne j1)
  refine ⟨(upd (upd σ6.1 19 (Int32.ofNat (pta + 1 + 1 + 6 + 1 + 1))) 34 (Int32.ofNat (pta + 1 + 1 + 6 + 1)), w1A σ6.2 (pta + 1 + 1 + 6 + 1) 6 (-1) (pta + 1 + 1 + 6)), c8, ?_, ?_, rfl, x1, z5, x2, ?_, ?_⟩
  · unfold rTail
    rw [e1]
    simp only
    rw [t8]
    simp only
    rw [w1]
    simp only
    rw [u8]
    simp only
    rw [z7]
  · have e2' : sp_Rd_newExit 2 (ca.1, ca.2.1, ca.2.2.1, (eset ca.2.2.2.1 ca.2.2.2.2.1 (.inr (2, gx_def gx_kd2))), (ca.2.2.2.2.1 + 1), (ca.2.2.2.2.2 + 6)) = some (some (ca.2.2.2.2.1 + 1), c2) := e2
    have w2' : sp_Rd_newWatch s (Int32.ofNat start) (c4.1, c4.2.1, c4.2.2.1, (eset c4.2.2.2.1 c4.2.2.2.2.1 (.inr (2, gx_def gx_kd2))), (c4.2.2.2.2.1 + 1), (c4.2.2.2.2.2 + 6)) = some (some (ca.2.2.2.2.1 + 3 + 4), c5) := w2
    have z1' : sp_Node_init c7.2.2.2.2.1 6 0 (some (ca.2.2.2.2.1 + 2)) (c7.1, c7.2.1, c7.2.2.1, (eset c7.2.2.2.1 c7.2.2.2.2.1 (.inr (2, gx_def gx_kd2))), (c7.2.2.2.2.1 + 1), (c7.2.2.2.2.2 + 6)) = some c8 := z1
    unfold cTail
    rw [e2']
    simp only
    rw [t1]
    simp only
    rw [t2]
    simp only
    rw [w2']
    simp only
    rw [u1]
    simp only
    rw [n4, u2]
    simp only
    rw [z1', n7]
  · rw [n7] at x3
    exact x3
  · rw [n7] at x4
    exact x4
end J23
