section J18
variable {sz at_ dp lc tr pr pc sc pt n : Nat} {σ : gm_S} {c : ck_S}
theorem VX_n {k hh tq at' pc' sc' pt' pn a : Nat} {p : Int32} {σ1 σ2 : gm_S} {c1 : ck_S} (h : VX k hh tq sz at_ dp lc tr pr pc sc pt σ c p σ1 a c1 at' pc' sc' pt' pn) (h1 : ∀ j, j ≠ 34 → j ≠ 35 → σ2.1 j = σ1.1 j) (h2 : σ2.2 = σ1.2) : VX k hh tq sz at_ dp lc tr pr pc sc pt σ c p σ2 a c1 at' pc' sc' pt' pn := by
  obtain ⟨y1, y2, y3, y4, y5, y6, y7, y8⟩ := h
  refine ⟨QR_r y1 h1 (fun j _ => by rw [h2]), y2, rU_r y3 h1 h2, y4, y5, y6, ?_, ?_⟩
  · unfold UL at y7 ⊢
    rw [h2]
    exact y7
  · rw [h2]
    exact y8
theorem VX_V {k hh h2 tq at1 at' pc' sc' pt' pn a : Nat} {p : Int32} {σ1 σ' : gm_S} {c1 c' : ck_S} (hcv : CV sz at_ dp lc tr pc sc c c1 at1 pc sc) (hrU : rU pr pc pt tr σ σ1) (hE : c1.2.2 = c.2.2) (hG : Gc c1 = Gc c) (hle : hh ≤ h2) (h : VX k hh tq sz at1 dp lc tr pr pc sc pt σ1 c1 p σ' a c' at' pc' sc' pt' pn) : VX k h2 tq sz at_ dp lc tr pr pc sc pt σ c p σ' a c' at' pc' sc' pt' pn := by
  obtain ⟨y1, y2, y3, y4, y5, y6, y7, y8⟩ := h
  have hnx : c1.2.2.2.2.1 = c.2.2.2.2.1 := by rw [hE]
  have h1 := hcv.2.1
  have h2' := y2.2.1
  rw [hnx] at y7 y8
  rw [hG] at y8
  exact ⟨y1, CV_tr hcv y2, rU_tr hrU y3 (Nat.le_refl _) (Nat.le_refl _), by omega, y5, y6, y7, fun hno => nR_mono _ _ _ _ _ hle (y8 hno)⟩
theorem VX_k {k k' hh tq at' pc' sc' pt' pn a : Nat} {p : Int32} {σ' : gm_S} {c' : ck_S} (hk : k ≤ k') (h : VX k hh tq sz at_ dp lc tr pr pc sc pt σ c p σ' a c' at' pc' sc' pt' pn) : VX k' hh tq sz at_ dp lc tr pr pc sc pt σ c p σ' a c' at' pc' sc' pt' pn := ⟨h.1, h.2.1, h.2.2.1, by have := h.2.2.2.1; omega, h.2.2.2.2⟩
theorem upd3 {r : Nat → Int32} {x y z : Int32} : ∀ j, j ≠ 34 → j ≠ 35 → upd (upd (upd r 19 x) 34 y) 27 z j = upd (upd r 27 z) 19 x j := fun j j1 _ => by
  unfold upd
  by_cases q1 : j = 27 <;> by_cases q2 : j = 19 <;> simp [q1, q2, j1]
theorem q_min13 (h : tr ≤ 13) : q_min (Int32.ofNat tr) 13 = Int32.ofNat tr := by
  unfold q_min
  rw [if_neg (show ¬ ((13 : Int32) < Int32.ofNat tr) from fun e => by have := (lt_N (a := 13) (by decide) (by omega)).mp e; omega)]
theorem exit_j {hh : Nat} (hh1 : 1 ≤ hh) (h : QR sz at_ dp lc tr pr pc sc pt σ c) (htr : tr ≤ 13) (hpt : pt ≤ 5 * at_ + 4) : JO 4 hh sz at_ dp lc tr pr pc sc pt σ c (sp_Md_readExit σ) (sp_Rd_readExit c) := by
  have hs : sz ≤ 500 := h.1.2.1
  have ha : at_ ≤ sz := h.1.2.2.2.1
  have h27 : σ.1 27 = Int32.ofNat at_ := h.2.2.2.1
  have h32 : σ.1 32 = Int32.ofNat tr := h.2.2.2.2.2.2.2.1
  have h8 : c.1 8 = Int32.ofNat at_ := h.1.2.2.1
  have h14 : c.1 14 = Int32.ofNat tr := h.1.2.2.2.2.2.2.2.1
  have hb : c.2.1 2 1 = 501 := h.2.1
  have hsb : Int32.ofNat tr - 1 = Int32.ofNat tr + (-1) := by rw [Int32.sub_eq_add_neg]
  unfold sp_Md_readExit sp_Rd_readExit
  rw [see_eq h, tb_eq h.1]
  simp only
  rcases up_in h with ⟨u1, u2⟩ | ⟨hl, ch, d1, d2, d3, d4, d5⟩
  · rw [if_pos u1, if_pos u2]
    simp only
    have hr := CW_R h.1
    have r14 : (cR c).1 14 = Int32.ofNat tr := hr.1.2.2.2.2.2.2.2.1
    rw [r14, q_min13 htr, hsb, h8]
    rcases exit_29 (w := at_) (v2 := -1) r14 htr tr 2601 (Nat.le_refl _) (by omega) with ⟨j, _, _, _, j4⟩ | ⟨_, j4⟩
    · rw [j4]
      refine ⟨0, σ, _, _, rfl, rfl, rW_rf, Or.inr ⟨rfl, ?_, at_, by omega, h27⟩⟩
      show (cR c).2.1 2 1 = _
      rw [hr.2.2.1 hb, h27]
    · rw [j4]
      refine ⟨0, σ, _, _, rfl, rfl, rW_rf, Or.inr ⟨rfl, ?_, at_, by omega, h27⟩⟩
      show (cN 2 at_ (cR c)).2.1 2 1 = _
      rw [(CW_N (k := 2) (w := at_) (by decide) (by decide) (by omega) hr.1).2.1, hr.2.2.1 hb, h27]
  · rw [d3, d4, if_neg d5, if_neg d5]
    simp only
    have p14 : (cP c).1 14 = Int32.ofNat tr := h14
    rw [p14, q_min13 htr, h32, hsb, h8]
    have hQ := QR_P h hl
    have hp26 : pt < 2600 := by omega
    have hpos := CV_P h.1 hl hb
    rcases rexit_23 h htr hp26 tr 2601 (Nat.le_refl _) (by omega) with ⟨j, j1, j2, j3, j4⟩ | ⟨j1, j4⟩
    · rcases exit_29 (c := cP c) (w := at_) (v2 := Int32.ofNat ch) p14 htr tr 2601 (Nat.le_refl _) (by omega) with ⟨i, i1, i2, i3, i4⟩ | ⟨i1, i4⟩
      · have hij : i = j := by
          have hq : ∀ q, q < tr → σ.2 33 q = (cP c).2.1 4 q := fun q hq => h.2.2.2.2.2.2.2.2.1 q hq
          rw [d3] at j2 j3
          rcases Nat.lt_trichotomy i j with e | e | e
          · exact absurd ((hq j j1).symm.trans j2) (i3 j e j1)
          · exact e
          · exact absurd ((hq i i1).trans i2) (j3 i e i1)
        subst hij
        rw [j4, i4]
        have hl2 := leaf_j (hh := hh) (tq := tr) (kd := 7) (x := -1) (v := Int32.ofNat (tr + 1 - i)) (vl := Int32.ofNat (tr + 1 - i)) hh1 hQ hp26 (by decide) (by show b16 ((1 : Int32) <<< (Int32.ofNat (tr + 1 - i) &&& 31)); exact b16_p2 (by omega)) rfl (by omega) rfl (fun _ => by
          refine Or.inr (Or.inr (Or.inr (Or.inr (Or.inr (Or.inr (Or.inr (Or.inl ⟨?_, rfl, tr + 1 - i, by omega, by omega, by omega, ?_, rfl⟩)))))))
          · rw [mk_20, upd_eq]
          · rw [mk_22, upd_eq])
        have hv := VX_V (h2 := hh) hpos (rU_P (σ := σ) (pr := pr) (pc := pc) (pt := pt) (tr := tr)) rfl rfl (Nat.le_refl _) (VX_n (σ2 := (upd (upd (upd σ.1 19 (Int32.ofNat (pt + 1))) 34 (Int32.ofNat pt)) 27 (σ.1 27 + 1), mkA σ.2 pt 7 (-1) (Int32.ofNat (tr + 1 - i)))) hl2.2 upd3 rfl)
        exact ⟨1, _, _, _, rfl, rfl, hv.2.2.1.1, Or.inl ⟨rfl, at_ + 1, pc, sc, pt + 1, pt, VX_k (by omega) hv⟩⟩
      · exact absurd ((h.2.2.2.2.2.2.2.2.1 j j1).symm.trans (j2.trans d3)) (i1 j j1)
    · rcases exit_29 (c := cP c) (w := at_) (v2 := Int32.ofNat ch) p14 htr tr 2601 (Nat.le_refl _) (by omega) with ⟨i, i1, i2, i3, i4⟩ | ⟨i1, i4⟩
      · exact absurd ((h.2.2.2.2.2.2.2.2.1 i i1).trans (i2.trans d3.symm)) (j1 i i1)
      · rw [j4, i4]
        have hQN : QR sz (at_ + 1) dp lc tr pr pc sc pt (mN 2 at_ (mP σ)) (cN 2 at_ (cP c)) := QR_N (by decide) (by decide) (by omega) (fun _ => by omega) hQ
        have hnf : ¬ noF (cN 2 at_ (cP c)) := fun hno => (CW_N (k := 2) (w := at_) (by decide) (by decide) (by omega) hQ.1).2.2 hno.1
        have hl2 := leaf_j (hh := hh) (tq := tr) (kd := 7) (x := -1) (v := 2) (vl := 2) hh1 hQN hp26 (by decide) (by show b16 ((1 : Int32) <<< (Int32.ofNat 2 &&& 31)); exact b16_p2 (by decide)) rfl (by omega) rfl (fun hno => absurd hno hnf)
        have eA : (mN 2 at_ (mP σ)).2 = (mN 2 at_ σ).2 := by
          unfold mN mP
          simp only
          by_cases q1 : σ.2 30 2 = -1
          · rw [if_pos q1, if_pos q1]
          · rw [if_neg q1, if_neg q1]
            by_cases q2 : σ.2 30 2 ≤ Int32.ofNat at_
            · rw [if_pos q2, if_pos q2]
            · rw [if_neg q2, if_neg q2]
        have eN : (mN 2 at_ (mP σ)).1 = upd σ.1 27 (σ.1 27 + 1) := (mN_o (σ := mP σ) (k := 2) (w := at_)).1
        have eN' : (mN 2 at_ σ).1 = σ.1 := (mN_o (σ := σ) (k := 2) (w := at_)).1
        have hv := VX_V (h2 := hh) (CV_tr hpos (CV_N (k := 2) (w := at_) (by decide) (by decide) (by omega) hpos.1)) (rU_tr (rU_P (σ := σ) (pr := pr) (pc := pc) (pt := pt) (tr := tr)) (rU_N (k := 2) (w := at_)) (Nat.le_refl _) (Nat.le_refl _)) rfl rfl (Nat.le_refl _) (VX_n (σ2 := (upd (upd (upd (mN 2 at_ σ).1 19 (Int32.ofNat (pt + 1))) 34 (Int32.ofNat pt)) 27 (σ.1 27 + 1), mkA (mN 2 at_ σ).2 pt 7 (-1) 2)) hl2.2 (fun j a b => by
          simp only
          rw [eN, eN']
          exact upd3 j a b) (by simp only; rw [eA]))
        exact ⟨1, _, _, _, rfl, rfl, hv.2.2.1.1, Or.inl ⟨rfl, at_ + 1, pc, sc, pt + 1, pt, VX_k (by omega) hv⟩⟩
end J18
