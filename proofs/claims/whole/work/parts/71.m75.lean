section Q4
variable {sz at_ dp lc tr pr pc sc pt : Nat} {σ : gm_S} {c : ck_S} {kd sep : Int32} {F : gm_S → Option (Int32 × gm_S)} {g : ck_S → Option (Option Nat × ck_S)}
theorem loop_step {h0 q at1 pc1 sc1 pt1 a1 i at2 pc2 sc2 pt2 pn a : Nat} {σ1 σ2 : gm_S} {c1 c2 : ck_S} {pre : List kd_R} {z : kd_R} {kl vl : Int32} {fl : Option Nat} (hlt : at1 < sz) (hW : CW sz at_ dp lc tr pc sc c) (h : LI kd h0 q sz at_ dp lc tr pr pc sc pt σ c at1 pc1 sc1 pt1 σ1 c1 pre z a1 i) (h26 : pt2 ≤ 2600) (y1 : QR sz at2 dp lc tr pr pc2 sc2 pt2 σ2 c2) (y2 : CV sz (at1 + 1) dp lc tr pc1 sc1 (cP c1) c2 at2 pc2 sc2) (y3 : rU pr pc1 pt1 tr (mP σ1) σ2) (y4 : pt2 + 1 ≤ pt1 + 5 * (at2 - (at1 + 1))) (y5 : pt1 ≤ pt2) (y7 : UL σ2 c2 pn a pt1 pt2 c1.2.2.2.2.1 c2.2.2.2.2.1) (y8 : noF c2 → nR σ2.2 c2.2.2.2.1 (c2.2.1 3) h0 (Gc (cP c1)) tr ((Int32.ofNat pn, a), (pt1, pt2), (c1.2.2.2.2.1, c2.2.2.2.2.1), (pc1, pc2))) (hz : c1.2.2.2.1 z.1.2 = some (nC kl vl fl (σ1.2 25 z.1.1.toNatClampNeg) (σ1.2 26 z.1.1.toNatClampNeg) none)) : LI kd h0 q sz at_ dp lc tr pr pc sc pt σ c at2 pc2 sc2 pt2 (σ2.1, gm_up σ2.2 24 (upd (σ2.2 24) z.1.1.toNatClampNeg (Int32.ofNat pn))) (cE c2 z.1.2 (nC kl vl fl (σ1.2 25 z.1.1.toNatClampNeg) (σ1.2 26 z.1.1.toNatClampNeg) (some a))) (pre ++ [z]) ((Int32.ofNat pn, a), (pt1, pt2), (c1.2.2.2.2.1, c2.2.2.2.2.1), (pc1, pc2)) a1 (i + 1) := by
  obtain ⟨l1, l2, l3, ⟨l4, l4'⟩, l5, l6, l7, l8, l9, l10, l11, l12, l13, l14, l15, l16, l17, y0, ys, hks, l18, l19⟩ := h
  have hb : c1.2.1 2 1 = 501 := l1.2.1
  have hzin : z ∈ pre ++ [z] := by simp
  obtain ⟨u1, u2, u3, u4, ug, u5, u6, k1, v1, f1, u7⟩ := y7
  have hkz := l8 z hzin
  obtain ⟨b1, b2, b3, b4, b5, b6, b7, b8, b9, b10, b11, b12, b13⟩ := hkz
  have hle1 := l2.2.2.2.2.2.1.1
  have hle2 : c1.2.2.2.2.1 ≤ c2.2.2.2.2.1 := y2.2.2.2.2.2.1.1
  have hclp : (Int32.ofNat pn).toNatClampNeg = pn := cl_of (by omega)
  have hat2 := y2.2.1
  have hTo : ∀ j, j ≠ 24 → gm_up σ2.2 24 (upd (σ2.2 24) z.1.1.toNatClampNeg (Int32.ofNat pn)) j = σ2.2 j := fun j hj => if_neg hj
  have hT24 : gm_up σ2.2 24 (upd (σ2.2 24) z.1.1.toNatClampNeg (Int32.ofNat pn)) 24 = upd (σ2.2 24) z.1.1.toNatClampNeg (Int32.ofNat pn) := if_pos rfl
  have hTp : ∀ j p, 20 ≤ j → j ≤ 26 → p < pt1 → (j ≠ 24 ∨ p ≠ z.1.1.toNatClampNeg) → gm_up σ2.2 24 (upd (σ2.2 24) z.1.1.toNatClampNeg (Int32.ofNat pn)) j p = σ1.2 j p := fun j p j1 j2 hp hc => by
    have e2 : σ2.2 j p = σ1.2 j p := y3.2.2.2.2.1 j p j1 j2 hp
    by_cases hj : j = 24
    · rw [hj, hT24, upd_ne (hc.elim (fun e => absurd hj e) id), ← hj]
      exact e2
    · rw [hTo j hj]
      exact e2
  have hTn : ∀ j p, pt1 ≤ p → gm_up σ2.2 24 (upd (σ2.2 24) z.1.1.toNatClampNeg (Int32.ofNat pn)) j p = σ2.2 j p := fun j p hp => by
    by_cases hj : j = 24
    · rw [hj, hT24, upd_ne (by omega)]
    · rw [hTo j hj]
  have hE12 : ∀ x, x < c1.2.2.2.2.1 → c2.2.2.2.1 x = c1.2.2.2.1 x := fun x hx => y2.2.2.2.2.2.1.2.1 x hx
  have hEo : ∀ x, x ≠ z.1.2 → (cE c2 z.1.2 (nC kl vl fl (σ1.2 25 z.1.1.toNatClampNeg) (σ1.2 26 z.1.1.toNatClampNeg) (some a))).2.2.2.1 x = c2.2.2.2.1 x := fun x hx => eset_ne hx
  have hEz : (cE c2 z.1.2 (nC kl vl fl (σ1.2 25 z.1.1.toNatClampNeg) (σ1.2 26 z.1.1.toNatClampNeg) (some a))).2.2.2.1 z.1.2 = some (nC kl vl fl (σ1.2 25 z.1.1.toNatClampNeg) (σ1.2 26 z.1.1.toNatClampNeg) (some a)) := eset_eq
  have hC1 : (cE c2 z.1.2 (nC kl vl fl (σ1.2 25 z.1.1.toNatClampNeg) (σ1.2 26 z.1.1.toNatClampNeg) (some a))).1 = c2.1 := rfl
  have hC2 : (cE c2 z.1.2 (nC kl vl fl (σ1.2 25 z.1.1.toNatClampNeg) (σ1.2 26 z.1.1.toNatClampNeg) (some a))).2.1 = c2.2.1 := rfl
  have hCn : (cE c2 z.1.2 (nC kl vl fl (σ1.2 25 z.1.1.toNatClampNeg) (σ1.2 26 z.1.1.toNatClampNeg) (some a))).2.2.2.2.1 = c2.2.2.2.2.1 := rfl
  have hcv : CV sz at_ dp lc tr pc sc c (cE c2 z.1.2 (nC kl vl fl (σ1.2 25 z.1.1.toNatClampNeg) (σ1.2 26 z.1.1.toNatClampNeg) (some a))) at2 pc2 sc2 := CV_E (CV_tr l2 (CV_tr (CV_P l1.1 hlt hb) y2)) (by omega)
  generalize cE c2 z.1.2 (nC kl vl fl (σ1.2 25 z.1.1.toNatClampNeg) (σ1.2 26 z.1.1.toNatClampNeg) (some a)) = c3 at hEo hEz hC1 hC2 hCn hcv ⊢
  generalize hA3 : gm_up σ2.2 24 (upd (σ2.2 24) z.1.1.toNatClampNeg (Int32.ofNat pn)) = A3 at hTo hT24 hTp hTn ⊢
  have hpre : ∀ y ∈ pre, y.1.1.toNatClampNeg < z.1.1.toNatClampNeg ∧ y.1.2 < z.1.2 ∧ y.1.1.toNatClampNeg < pt1 ∧ y.1.2 < c1.2.2.2.2.1 := fun y hy => by
    obtain ⟨_, _, _, d4, _, _, d7, _, d9, _, d11, _⟩ := l8 y (by simp [hy])
    have := l9 y hy
    omega
  have hmem : ∀ y, y ∈ pre ++ [z] → y ∈ pre ∨ y = z := fun y hy => by
    rcases List.mem_append.mp hy with e | e
    · exact Or.inl e
    · exact Or.inr (List.mem_singleton.mp e)
  have ha1 : a1 < c1.2.2.2.2.1 := by
    rw [hks] at l7
    have e : a1 = y0.1.2 := Option.some.inj l7.2.1
    obtain ⟨_, _, _, _, _, _, _, _, d9, _, d11, _⟩ := l8 y0 (by rw [hks]; simp)
    omega
  refine ⟨?_, hcv, ?_, ⟨l4, by omega⟩, ?_, ?_, ?_, fun y hy => ?_, fun y hy => ?_, fun p p1 p2 => ?_, ?_, ?_, fun hno y hy => ?_, ?_, ⟨fun e => ?_, fun e => by omega⟩, by omega, by omega, y0, ys ++ [((Int32.ofNat pn, a), (pt1, pt2), (c1.2.2.2.2.1, c2.2.2.2.2.1), (pc1, pc2))], ?_, l18, fun y hy => ?_⟩
  · refine QR_h (QR_r y1 (fun _ _ _ => rfl) (fun j hj => hTo j (by omega))) hC1 hC2
  · obtain ⟨w1, w2, w3, w4, w5, w6⟩ := rU_tr l3 (rU_tr (rU_P (σ := σ1) (pr := pr) (pc := pc1) (pt := pt1) (tr := tr)) y3 (Nat.le_refl _) (Nat.le_refl _)) l2.2.2.1 (by omega)
    refine ⟨⟨w1.1, fun j e1 e2 e3 e4 e5 e6 => ?_⟩, fun l hl => ?_, fun i hi => ?_, fun i hi => ?_, fun j p j1 j2 hp => ?_, fun i hi => ?_⟩
    · simp only; rw [hTo j (by omega)]; exact w1.2 j e1 e2 e3 e4 e5 e6
    · simp only; rw [hTo 31 (by decide)]; exact w2 l hl
    · simp only; rw [hTo 17 (by decide)]; exact w3 i hi
    · simp only; rw [hTo 18 (by decide)]; exact w4 i hi
    · simp only
      rw [hTp j p j1 j2 (by omega) (Or.inr (by omega))]
      exact l3.2.2.2.2.1 j p j1 j2 hp
    · simp only; rw [hTo 33 (by decide)]; exact w6 i hi
  · simp only; rw [hTp 20 q (by decide) (by decide) l4' (Or.inl (by decide))]; exact l5
  · simp only; rw [hTp 24 q (by decide) (by decide) l4' (Or.inr (by omega))]; exact l6
  · simp only
    rw [hTp 23 q (by decide) (by decide) l4' (Or.inl (by decide))]
    have e : ((pre ++ [z] ++ [((Int32.ofNat pn, a), (pt1, pt2), (c1.2.2.2.2.1, c2.2.2.2.2.1), (pc1, pc2))]).map (fun y => y.1)) = pre.map (fun y => y.1) ++ [(z.1.1, z.1.2)] ++ [(Int32.ofNat pn, a)] := by simp
    have e0 : ((pre ++ [z]).map (fun y => y.1)) = pre.map (fun y => y.1) ++ [(z.1.1, z.1.2)] := by simp
    rw [e]
    rw [e0] at l7
    have hu7 : c3.2.2.2.1 a = some (nC k1 v1 f1 (σ2.2 25 pn) (σ2.2 26 pn) none) := by rw [hEo a (by omega)]; exact u7
    refine chn_snoc (w25 := σ2.2 25 pn) (gi_of (by omega) (by decide)) ?_ (hTp 25 _ (by decide) (by decide) (by omega) (Or.inl (by decide))) ?_ (nC_5 hEz) ?_ (nC_3 hu7) (nC_5 hu7) ?_ _ _ _ (fun y hy => ?_) l7
    · rw [hT24, upd_eq]
    · rw [nC_3 hEz, nC_3 hz]
    · rw [hclp]; exact hTn 25 pn u1
    · rw [hclp, hTn 24 pn u1]; exact u5
    · obtain ⟨y, hy2, rfl⟩ := List.mem_map.mp hy
      obtain ⟨d1, d2, d3, d4⟩ := hpre y hy2
      exact ⟨hTp 24 _ (by decide) (by decide) d3 (Or.inr (by omega)), hTp 25 _ (by decide) (by decide) d3 (Or.inl (by decide)), by rw [hEo _ (by omega), hE12 _ d4]⟩
  · rcases List.mem_append.mp hy with hy' | hy'
    · obtain ⟨d1, d2, d3, d4, d5, d6, d7, d8, d9, d10, d11, d12, d13⟩ := l8 y hy'
      have e26 : A3 26 y.1.1.toNatClampNeg = σ1.2 26 y.1.1.toNatClampNeg := hTp 26 _ (by decide) (by decide) (by omega) (Or.inl (by decide))
      refine ⟨d1, d2, d3, by omega, d5, d6, d7, d8, by rw [hCn]; omega, d10, d11, ?_, by simp only; rw [e26]; exact d13⟩
      simp only
      rw [e26]
      rcases hmem y hy' with hp | hp
      · obtain ⟨_, f2, _, f4⟩ := hpre y hp
        rw [egI_e (eg_E ((hEo _ (by omega)).trans (hE12 _ f4)))]
        exact d12
      · rw [hp]
        exact nC_4 hEz
    · rw [List.mem_singleton.mp hy']
      have hu7 : c3.2.2.2.1 a = some (nC k1 v1 f1 (σ2.2 25 pn) (σ2.2 26 pn) none) := by rw [hEo a (by omega)]; exact u7
      refine ⟨by simp only; rw [hclp], by simp only; rw [hclp]; omega, by simp only; omega, Nat.le_refl _, Or.inl l4', by simp only; rw [hclp]; exact u1, by simp only; rw [hclp]; exact u2, by simp only; omega, by rw [hCn]; exact Nat.le_refl _, u3, u4, ?_, ?_⟩
      · simp only
        rw [hclp, hTn 26 pn u1]
        exact nC_4 hu7
      · simp only
        rw [hclp, hTn 26 pn u1]
        exact u6
  · obtain ⟨_, _, _, d4, _, _, _, _, d9, _⟩ := l8 y hy
    exact ⟨d4, d9⟩
  · by_cases hp : p < pt1
    · rcases l10 p p1 hp with e | ⟨y, hy, e⟩
      · exact Or.inl e
      · exact Or.inr ⟨y, List.mem_append.mpr (Or.inl hy), e⟩
    · exact Or.inr ⟨_, List.mem_append.mpr (Or.inr (List.mem_singleton.mpr rfl)), by simp only; omega, p2⟩
  · exact pz_snoc _ _ _ l11 rfl
  · simp only
    rw [hclp]
    refine ⟨u1, u2, u3, u4, ?_, ?_, ?_, k1, v1, f1, ?_⟩
    · simp only; rw [hTn 20 pn u1]; exact ug
    · simp only; rw [hTn 24 pn u1]; exact u5
    · simp only; rw [hTn 26 pn u1]; exact u6
    · simp only; rw [hEo a (by omega), hTn 25 pn u1, hTn 26 pn u1]; exact u7
  · have hno2 : noF c2 := by unfold noF at hno ⊢; rw [← hC2]; exact hno
    have hno1 : noF c1 := noF_b (c := cP c1) y2.2.2.2.2.1 hno2
    rcases List.mem_append.mp hy with hy' | hy'
    · obtain ⟨d1, d2, d3, d4, d5, d6, d7, d8, d9, d10, d11, d12, d13⟩ := l8 y hy'
      have hk := l13 hno1 y hy'
      have hβ : ∀ j, j < 26 → c1.2.1 3 j ≠ 0 → c3.2.1 3 j = c1.2.1 3 j := fun j jl jn => by rw [hC2]; exact y2.2.2.2.2.1.2.2.2.2.1 j jl jn
      simp only
      rcases hmem y hy' with hp | hp
      · have hl9 := l9 y hp
        refine nR_ext _ _ _ _ hk ⟨fun j p j1 j2 p1 p2 _ => hTp j p j1 j2 (by omega) (Or.inr (by omega)), fun p p1 p2 _ => (hEo p (by omega)).trans (hE12 p (by omega)), fun j _ => eg_E ((hEo _ (by omega)).trans (hE12 _ (by omega))), fun _ => (hEo _ (by omega)).trans (hE12 _ (by omega))⟩ hβ
      · subst hp
        refine nR_ext _ _ _ _ hk ⟨fun j p j1 j2 p1 p2 hc => hTp j p j1 j2 (by omega) hc, fun p p1 p2 p3 => (hEo p p3).trans (hE12 p (by omega)), eg_nx hz hEz, fun hr => ?_⟩ hβ
        obtain ⟨r1, r2, r3⟩ := hr
        obtain ⟨_, _, _, _, ug', _⟩ := l12
        exfalso
        rcases ug' with e | e | e
        · omega
        · omega
        · exact e r3
    · rw [List.mem_singleton.mp hy']
      have g12 : c1.1 12 = c.1 12 := l2.2.2.2.2.1.1 12 (by decide) (by decide) (by decide)
      have hG0 : ∀ l, l < 26 → Gc c1 l = Gc c l := Gc_eq l2 hW g12
      have hG : ∀ l, l < 26 → Gc (cP c1) l = Gc c l := hG0
      have hk := nR_G _ _ _ _ _ hG (y8 hno2)
      simp only
      rw [hC2]
      refine nR_ext _ _ _ _ hk ⟨fun j p _ _ p1 _ _ => hTn j p p1, fun p p1 _ _ => hEo p (by simp only at p1; omega), fun j _ => eg_E (hEo _ (by simp only; omega)), fun _ => hEo _ (by simp only; omega)⟩ (fun _ _ _ => rfl)
  · simp [l14]
  · simp only at e
    omega
  · rw [hks]
    simp
  · rcases List.mem_append.mp hy with e | e
    · exact l19 y e
    · rw [List.mem_singleton.mp e]
      exact l4'
end Q4
