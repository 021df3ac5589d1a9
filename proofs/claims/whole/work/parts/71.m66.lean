section J19
variable {sz at_ dp lc tr pr pc sc pt n : Nat} {σ : gm_S} {c : ck_S}
def rAmp (start : Int32) (σ : gm_S) : Option (Int32 × gm_S) := (match sp_Md_isNamed 0 σ with
  | none => none
  | some y13 => (if y13.1 = 0 then some (0, y13.2) else (match sp_Md_waiting (y13.2.1 35) start y13.2 with
    | none => none
    | some y15 => (match sp_Md_with 6 (-1) y15.1 (-1) y15.2 with
      | none => none
      | some y16 => some (1, ((upd y16.2.1 34 y16.1), y16.2.2))))))
def cAmp (start : Int32) (c : ck_S) : Option (Option Nat × ck_S) := (match sp_Rd_readToldSignal (c.1, c.2.1, c.2.2.1, (eset c.2.2.2.1 c.2.2.2.2.1 (.inr (2, gx_def gx_kd2))), (c.2.2.2.2.1 + 1), (c.2.2.2.2.2 + 6)) with
  | none => none
  | some y14 => (match sp_Rd_newWatch y14.1 start y14.2 with
    | none => none
    | some y15 => (match sp_Node_init c.2.2.2.2.1 6 0 y15.1 y15.2 with
      | none => none
      | some y16 => some ((some c.2.2.2.2.1), y16))))
theorem amp_j {start hh : Nat} (hst : start ≤ 500) (hh5 : 5 ≤ hh) (h : QR sz at_ dp lc tr pr pc sc pt σ c) (hp : pc + 1 ≤ at_) (htr : tr ≤ 12) (hpt : pt ≤ 5 * at_ + 4) : JO 4 hh sz at_ dp lc tr pr pc sc pt σ c (rAmp (Int32.ofNat start) σ) (cAmp (Int32.ofNat start) c) := by
  have hs : sz ≤ 500 := h.1.2.1
  have ha : at_ ≤ sz := h.1.2.2.2.1
  have hM : QR sz at_ dp lc tr pr pc sc pt σ (cM c nD) := QR_h h rfl rfl
  unfold rAmp cAmp
  rcases named_j false hM with ⟨s, c1, σ1, e1, e2, e3, e4, e5⟩ | ⟨l, c1, σ1, l1, l2, e1, e2, e3, e4, e5, e6, e7, e8, e9⟩
  · have e1' : sp_Rd_readToldSignal (c.1, c.2.1, c.2.2.1, (eset c.2.2.2.1 c.2.2.2.2.1 (.inr (2, gx_def gx_kd2))), (c.2.2.2.2.1 + 1), (c.2.2.2.2.2 + 6)) = some (s, c1) := e1
    have e2' : sp_Md_isNamed 0 σ = some (0, σ1) := e2
    rw [e1', e2']
    simp only
    rw [if_pos trivial]
    obtain ⟨hfb, at1, q2, q3⟩ := named_fb hM e1 e3 e4
    obtain ⟨b1, c2, r1, at2, pc2, sc2, x1, x2, x3, x4, x5, x6⟩ := watch_cx (start := start) (v1 := s) q2.1 (by have := q2.2.1; omega) hst
    rw [r1]
    simp only
    have hnx : c1.2.2.2.2.1 = c.2.2.2.2.1 + 1 := by rw [q3]; rfl
    have hcell : c2.2.2.2.1 c.2.2.2.2.1 = some nD := by
      rw [x1.2.2.2.2.2.1.2.1 _ (by rw [hnx]; omega), q3]
      exact eset_eq
    obtain ⟨c', i1, i2⟩ := initN (kd := 6) (v := 0) hcell x6 (by omega)
    rw [i1]
    have hfb2 := CV_fb hfb x1
    refine ⟨0, σ1, _, c', rfl, rfl, e5, Or.inr ⟨rfl, ?_⟩⟩
    have hfb3 : FB σ1 c' := by unfold FB at hfb2 ⊢; rw [i2]; exact hfb2
    exact hfb3
  · have e1' : sp_Rd_readToldSignal (c.1, c.2.1, c.2.2.1, (eset c.2.2.2.1 c.2.2.2.2.1 (.inr (2, gx_def gx_kd2))), (c.2.2.2.2.1 + 1), (c.2.2.2.2.2 + 6)) = some (c.2.1 3 l, c1) := e1
    have e2' : sp_Md_isNamed 0 σ = some (1, σ1) := e2
    rw [e1', e2']
    simp only
    rw [if_neg (by decide)]
    have hnx : c1.2.2.2.2.1 = c.2.2.2.2.1 + 1 := by rw [e7]; rfl
    have g12 : c1.1 12 = (cM c nD).1 12 := e8.2.2.2.2.1.1 12 (by decide) (by decide) (by decide)
    have hGc : Gc c1 = Gc c := Gc_of e4 g12
    obtain ⟨σ2, c2, w1, w2, w3, w4, w5, w6, w7, w8, w9⟩ := watch_j (start := start) (tq := tr + 1) (x := σ1.1 35) (s := c.2.1 3 l) e5 (by omega) hst (by omega) (by omega) (by omega) (fun hno => sig_k (c := cM c nD) (tr := tr) (pc := pc) CF_rf l1 e4 g12 e3 e9 hno)
    rw [w1, w2]
    simp only
    have hcell : c2.2.2.2.1 c.2.2.2.2.1 = some nD := by
      rw [w4.2.2.2.2.2.1.2.1 _ (by rw [hnx]; omega), e7]
      exact eset_eq
    rw [hGc] at w9
    obtain ⟨c3, t1, t2, t3, t4, t5, t6, t7, t8⟩ := wrapG1 (kd := 6) (x := -1) (vl := 0) (hh := 4) (tq := tr) (t1 := tr + 1) (Γ1 := Gc c) (σ := σ) (c := c) (c1 := c2) (σ1 := σ2) (a := c.2.2.2.2.1) (pc := pc) (sc := sc) (at_ := at_) (by decide) w3 (rU_tr e6 w5 (Nat.le_refl _) (Nat.le_refl _)) (by omega) w8 w9 (by omega) hcell (CV_tr (CV_M h.1) (CV_tr e8 w4)) (Nat.le_refl _) (by rw [w6]; omega) (by rw [hnx]; omega) (Nat.le_refl _) (Or.inl (by rw [hnx]; omega)) (Or.inl rfl) (by rw [if_neg (by decide)]) (by rw [if_pos rfl]) (fun _ e => absurd e (by decide)) (fun _ e => absurd e (by decide)) (fun _ e => absurd e (by decide))
    rw [t7]
    simp only
    rw [t1]
    obtain ⟨s1, s2, s3, s4⟩ := t8 (upd (upd σ2.1 19 (Int32.ofNat (pt + 6 + 1))) 34 (Int32.ofNat (pt + 6)), w1A σ2.2 (pt + 6) 6 (-1) (pt + 5)) rfl (fun j j1 _ => upd_ne j1)
    exact ⟨1, _, _, c3, rfl, rfl, s2.1, Or.inl ⟨rfl, at_ + 1, pc + 1, sc, pt + 6 + 1, pt + 6, s1, t5, s2, by omega, by omega, rfl, s3, fun hno => nR_mono _ _ _ _ _ hh5 (s4 hno)⟩⟩
def rCar (start : Int32) (σ : gm_S) : Option (Int32 × gm_S) := (match sp_Md_isNamed 1 σ with
  | none => none
  | some y32 => (if y32.1 = 0 then some (0, y32.2) else (match sp_Md_makePart 2 (y32.2.1 35) 0 y32.2 with
    | none => none
    | some y34 => (match sp_Md_pause start y34.2 with
      | none => none
      | some y35 => (match sp_Md_with 9 (-1) y34.1 y35.1 y35.2 with
        | none => none
        | some y36 => (match sp_Md_with 4 (-1) y36.1 (-1) y36.2 with
          | none => none
          | some y37 => some (1, ((upd y37.2.1 34 y37.1), y37.2.2))))))))
def cCar (start : Int32) (c : ck_S) : Option (Option Nat × ck_S) := (match sp_Rd_readEmittedSignal c with
  | none => none
  | some y30 => (match sp_Rd_newSustain y30.1 start y30.2 with
    | none => none
    | some y31 => some (y31.1, y31.2)))
theorem emit_fb {c1 : ck_S} {s : Int32} {σ1 : gm_S} (h : QR sz at_ dp lc tr pr pc sc pt σ c) (e1 : sp_Rd_readEmittedSignal c = some (s, c1)) (e3 : c1.2.1 2 1 = Int32.ofNat at_) (e4 : σ1.1 27 = Int32.ofNat at_) : FB σ1 c1 ∧ ∃ at1, CV sz at_ dp lc tr pc sc c c1 at1 pc sc ∧ c1.2.2 = c.2.2 := by
  have hs : sz ≤ 500 := h.1.2.1
  have ha : at_ ≤ sz := h.1.2.2.2.1
  obtain ⟨s', c1', at1, q1, q2, q3, q4, q5⟩ := emitd_eq h.1
  rw [e1] at q1
  obtain ⟨_, hcc⟩ := Prod.mk.inj (Option.some.inj q1)
  rw [← hcc] at q2 q4 q5
  refine ⟨⟨by rw [e3, e4], at_, by omega, e4⟩, at1, q2, ?_⟩
  have h1 := q2.2.2.2.2.1.2.1
  obtain ⟨n1, l1, r1, E1, x1, y1⟩ := c1
  obtain ⟨n0, l0, r0, E0, x0, y0⟩ := c
  simp only at h1 q4 q5 ⊢
  rw [h1, q4, q5]
theorem oS912 : oE 9 (oS 9 1 2) = 2 := by decide
theorem car_j {start hh : Nat} (hst : start ≤ 500) (hh3 : 3 ≤ hh) (h : QR sz at_ dp lc tr pr pc sc pt σ c) (hp : pc + 1 ≤ at_) (htr : tr ≤ 14) (hpt : pt ≤ 5 * at_ + 4) : JO 4 hh sz at_ dp lc tr pr pc sc pt σ c (rCar (Int32.ofNat start) σ) (cCar (Int32.ofNat start) c) := by
  have hs : sz ≤ 500 := h.1.2.1
  have ha : at_ ≤ sz := h.1.2.2.2.1
  unfold rCar cCar
  rcases named_j true h with ⟨s, c1, σ1, e1, e2, e3, e4, e5⟩ | ⟨l, c1, σ1, l1, l2, e1, e2, e3, e4, e5, e6, e7, e8, e9⟩
  · have e1' : sp_Rd_readEmittedSignal c = some (s, c1) := e1
    have e2' : sp_Md_isNamed 1 σ = some (0, σ1) := e2
    rw [e1', e2']
    simp only
    rw [if_pos trivial]
    obtain ⟨hfb, at1, q2, q3⟩ := emit_fb h e1' e3 e4
    obtain ⟨b1, c2, r1, at2, pc2, sc2, x1, x2, x3, x4, x5, x6⟩ := sustain_cx (start := start) (v1 := s) q2.1 (by have := q2.2.1; omega) hst
    rw [r1]
    exact ⟨0, σ1, b1, c2, rfl, rfl, e5, Or.inr ⟨rfl, CV_fb hfb x1⟩⟩
  · have e1' : sp_Rd_readEmittedSignal c = some (c.2.1 3 l, c1) := e1
    have e2' : sp_Md_isNamed 1 σ = some (1, σ1) := e2
    rw [e1', e2']
    simp only
    rw [if_neg (by decide)]
    have g12 : c1.1 12 = c.1 12 := e8.2.2.2.2.1.1 12 (by decide) (by decide) (by decide)
    have hGc : Gc c1 = Gc c := Gc_of e4 g12
    have hQ1 : QR sz (at_ + 1) dp lc tr pr pc sc pt σ1 (cM c1 nD) := QR_h e5 rfl rfl
    obtain ⟨m1, m2, m3⟩ := emit_j (hh := 1) (tq := tr) (x := σ1.1 35) (s := c.2.1 3 l) (by decide) hQ1 (by omega) htr (fun hno => sig_k (c := c) (tr := tr) (pc := pc) (CF_rf (c := c1)) l1 e4 g12 e3 e9 hno)
    generalize hσ2 : ((upd σ1.1 19 (Int32.ofNat (pt + 1)), mkA σ1.2 pt 2 (σ1.1 35) 0) : gm_S) = σ2 at m1 m3
    have h26e : σ2.2 26 pt = 1 := by rw [← hσ2]; exact (upd_eq : upd (σ1.2 26) pt (1 : Int32) pt = 1)
    obtain ⟨y1, y2, y3, _, _, _, y7, y8⟩ := m3
    obtain ⟨σ3, c3, p1, p2, p3, p4, p5, p6, p7, p8⟩ := pause_j (hh := 1) (tq := tr) (start := start) (by decide) y1 (by omega) (by omega) hst htr
    obtain ⟨x1, x2, x3, _, _, _, x7, x8⟩ := p3
    rw [m1]
    simp only
    rw [p1]
    simp only
    have n1 : (cM c1 nD).2.2.2.2.1 = c1.2.2.2.2.1 + 1 := rfl
    have n2 : (cM (cM c1 nD) (nC 2 (c.2.1 3 l) none 0 1 none)).2.2.2.2.1 = c1.2.2.2.2.1 + 2 := rfl
    rw [n1, n2] at y7 y8
    rw [n2] at p4 x7 x8 p2
    rw [p4] at x7 x8
    have hcell : c3.2.2.2.1 c1.2.2.2.2.1 = some nD := by
      rw [x2.2.2.2.2.2.1.2.1 _ (by rw [n2]; omega), y2.2.2.2.2.2.1.2.1 _ (by rw [n1]; omega)]
      exact eset_eq
    have hE3 : ∀ q, q < c1.2.2.2.2.1 + 2 → c3.2.2.2.1 q = (cM (cM c1 nD) (nC 2 (c.2.1 3 l) none 0 1 none)).2.2.2.1 q := fun q hq => x2.2.2.2.2.2.1.2.1 q (by rw [n2]; exact hq)
    have hcv3 : CV sz (at_ + 1) dp lc tr pc sc c1 c3 (at_ + 1) (pc + 1) sc := CV_tr (CV_M e5.1) (CV_tr y2 x2)
    have hU32 : ∀ j q, 20 ≤ j → j ≤ 26 → q < pt + 1 → σ3.2 j q = σ2.2 j q := fun j q a b d => x3.2.2.2.2.1 j q a b d
    obtain ⟨c4, c5, t1, t2, t3, t4, t5, t6, t7, t8, t9⟩ := wrapJ2 (kd := 9) (x := -1) (vl := 0) (hh := 1) (tq := tr) (c := c1) (σ := σ1) (c1 := c3) (σ1 := σ3) (a := c1.2.2.2.2.1) (a1 := c1.2.2.2.2.1 + 1) (a2 := c1.2.2.2.2.1 + 2) (b1 := c1.2.2.2.2.1 + 1) (e1 := c1.2.2.2.2.1 + 2) (b2 := c1.2.2.2.2.1 + 2) (e2 := c1.2.2.2.2.1 + 2 + 1) (w := pc) (pt := pt) (mid := pt + 1) (pn1 := pt) (pn2 := pt + 1) (by decide) x1 (rU_tr y3 x3 (Nat.le_refl _) (by omega)) (by omega) (mv_UL hU32 hE3 y7) (UL_x x7) (fun hno => mv_nR hU32 hE3 (fun j jl jn => x2.2.2.2.2.1.2.2.2.2.1 j jl jn) (Nat.le_refl _) (Nat.le_refl _) (y8 (noF_b x2.2.2.2.2.1 hno))) x8 htr hcell hcv3 (Nat.le_refl _) (by rw [p4]; omega) (by omega) (by rw [p4]; omega) (Or.inl (by omega)) (by omega) (by rw [p4]; omega) (Or.inl (by omega)) (Or.inl (Nat.le_refl _)) (fun _ e => absurd e (by decide))
    rw [t8]
    simp only
    generalize hσ4 : ((upd σ3.1 19 (Int32.ofNat (pt + 1 + 1 + 1)), w2A σ3.2 (pt + 1 + 1) 9 (-1) pt (pt + 1)) : gm_S) = σ4
    obtain ⟨s1, s2, s3, s4⟩ := t9 σ4 (by rw [← hσ4]) (fun j _ _ => by rw [← hσ4])
    have n5 : c5.2.2.2.2.1 = c1.2.2.2.2.1 + 2 + 1 := by rw [t5, p4]
    have h26 : σ4.2 26 (pt + 1 + 1) = 2 := by
      rw [← hσ4]
      simp only
      rw [w2_26, hU32 26 pt (by decide) (by decide) (by omega), h26e, p8]
      exact oS912
    have hE5 : ∀ q, q < c5.2.2.2.2.1 → (cM c5 nD).2.2.2.1 q = c5.2.2.2.1 q := fun q hq => eset_ne (by omega)
    have hn5 : (cM c5 nD).2.2.2.2.1 = c5.2.2.2.2.1 + 1 := rfl
    obtain ⟨c6, z1, z2, z3, z4, z5, z6, z7, z8⟩ := wrapG1 (kd := 4) (x := -1) (vl := 0) (hh := 2) (tq := tr) (t1 := tr) (Γ1 := Gc c1) (σ := σ1) (c := c1) (c1 := cM c5 nD) (σ1 := σ4) (a := c5.2.2.2.2.1) (pc := pc) (sc := sc) (at_ := at_ + 1) (by decide) (QR_h s1 rfl rfl) s2 (by omega) (UL_x (mv_UL (fun _ _ _ _ _ => rfl) hE5 s3)) (fun hno => mv_nR (fun _ _ _ _ _ => rfl) hE5 (fun _ _ _ => rfl) (Nat.le_refl _) (Nat.le_refl _) (s4 hno)) htr eset_eq (CV_tr t6 (CV_M t6.1)) (by rw [n5]; omega) (by rw [hn5]; omega) (Nat.le_refl _) (by rw [hn5]; omega) (Or.inr (Nat.le_refl _)) (Or.inr hn5.symm) (by rw [if_neg (by decide)]) (by rw [if_neg (by decide)]) (fun _ _ => by rw [h26]; exact b2_0) (fun _ e => absurd e (by decide)) (fun _ e => absurd e (by decide))
    rw [z7]
    simp only
    have hsus : sp_Rd_newSustain (c.2.1 3 l) (Int32.ofNat start) c1 = some (some c5.2.2.2.2.1, c6) := by
      unfold sp_Rd_newSustain
      have m2' : sp_Rd_newEmit (c.2.1 3 l) (c1.1, c1.2.1, c1.2.2.1, (eset c1.2.2.2.1 c1.2.2.2.2.1 (.inr (2, gx_def gx_kd2))), (c1.2.2.2.2.1 + 1), (c1.2.2.2.2.2 + 6)) = some (some (c1.2.2.2.2.1 + 1), cM (cM c1 nD) (nC 2 (c.2.1 3 l) none 0 1 none)) := m2
      rw [m2']
      simp only
      rw [p2]
      simp only
      rw [t1]
      simp only
      rw [t2]
      simp only
      have z1' : sp_Node_init c5.2.2.2.2.1 4 0 (some c1.2.2.2.2.1) (c5.1, c5.2.1, c5.2.2.1, (eset c5.2.2.2.1 c5.2.2.2.2.1 (.inr (2, gx_def gx_kd2))), (c5.2.2.2.2.1 + 1), (c5.2.2.2.2.2 + 6)) = some c6 := z1
      rw [z1']
    rw [hsus]
    obtain ⟨v1, v2, v3, v4⟩ := z8 (upd (upd σ4.1 19 (Int32.ofNat (pt + 1 + 1 + 1 + 1))) 34 (Int32.ofNat (pt + 1 + 1 + 1)), w1A σ4.2 (pt + 1 + 1 + 1) 4 (-1) (pt + 1 + 1)) rfl (fun j j1 _ => upd_ne j1)
    exact ⟨1, _, _, c6, rfl, rfl, rW_tr e6.1 v2.1, Or.inl ⟨rfl, at_ + 1, pc + 1, sc, pt + 1 + 1 + 1 + 1, pt + 1 + 1 + 1, VX_V (k := 4) e8 e6 e7 hGc (show 3 ≤ hh from hh3) ⟨v1, z5, v2, by omega, by omega, rfl, v3, v4⟩⟩⟩
end J19
