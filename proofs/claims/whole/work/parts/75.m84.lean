section H7
variable {lim sz at_ dp lc tr pr pc sc pt ni no : Nat} {li lo : Nat → Nat} {σ : gm_S} {c : ck_S}
def fnS (pr pt : Nat) (p : Int32) (σ : gm_S) : gm_S := (upd σ.1 10 (Int32.ofNat (pr + 1)), gm_up (gm_up σ.2 16 (upd (σ.2 16) pr p)) 49 (upd (σ.2 49) (pr + 1) (Int32.ofNat pt)))
theorem rFn_eq (h10 : σ.1 10 = Int32.ofNat pr) (hp : pr < 6) (h19 : σ.1 19 = Int32.ofNat pt) : rFn σ = some (1, fnS pr pt (σ.1 34) σ) := by
  unfold rFn fnS
  rw [h10, if_pos (gi_of (by omega) (by decide)), ofN_s, if_pos (gi_of (by omega) (by decide)), cl_of (by omega), cl_of (by omega), h19]
theorem rH_fn {p : Int32} {q pt0 : Nat} : rH pr pt0 σ (fnS pr q p σ) := by
  have e16 : ∀ i, (fnS pr q p σ).2 16 i = upd (σ.2 16) pr p i := fun i => rfl
  have e49 : ∀ i, (fnS pr q p σ).2 49 i = upd (σ.2 49) (pr + 1) (Int32.ofNat q) i := fun i => rfl
  have eo : ∀ j, j ≠ 16 → j ≠ 49 → (fnS pr q p σ).2 j = σ.2 j := fun j a b => by
    show gm_up (gm_up _ _ _) _ _ j = _
    unfold gm_up
    rw [if_neg b, if_neg a]
  exact ⟨⟨fun j _ _ _ _ _ _ _ h => upd_ne h, fun j a _ _ _ b => eo j (by omega) b, by rw [e49, upd_ne (by omega)]⟩, fun i hi => ⟨rfl, rfl, rfl, by rw [e16, upd_ne (by omega)], rfl⟩, fun i hi => by rw [e49, upd_ne (by omega)], fun i _ => ⟨rfl, rfl⟩, fun i _ => rfl, fun j q' a b _ => by rw [eo j (by omega) (by omega)]⟩
theorem fw_2 (h : fr2 at_ σ c) : fw at_ σ c := by
  rcases h with ⟨a, b, _⟩ | e
  · exact Or.inl ⟨a, b⟩
  · exact Or.inr e
theorem Int32_cl {n : Nat} (h : n < 2600) : (Int32.ofNat n).toNatClampNeg = n := cl_of (by omega)
theorem end_j (h : HB sz at_ pr pt (ni + no) σ c) (hL : HL pr ni no li lo σ c) (h11 : ∀ q, bt (c.1 11) q = decide (q < ni)) (hpt : pt ≤ 5 * at_) (h49 : σ.2 49 pr = Int32.ofNat pt) (hno : c.2.1 2 2 = 501 → 1 ≤ no) (hlim : lim ≤ c.2.2.2.2.1) : JE lim sz pr pt σ c (rBg σ) (cEnd (σ.2 11 pr) (Int32.ofNat ni) (Int32.ofNat no) c) := by
  have hA := h.2.1
  have hs : sz ≤ 500 := h.1.2.1
  have ha : at_ ≤ sz := h.1.2.2.2.1
  have hQ0 := HQ h hL h11
  rw [cEnd_eq, ex_eq (v1 := 123) h.1]
  simp only
  unfold rBg
  rw [want_a hA]
  simp only
  have hiff : sv sz at_ σ = 123 ↔ pk sz at_ c = 123 := sv_ia hA (x := 123) (by decide) (by decide)
  by_cases hp : sv sz at_ σ = 123
  · rw [if_pos hp, if_pos (hiff.mp hp)]
    simp only
    rw [if_neg (by decide)]
    have hlt : at_ < sz := by
      rcases sv_a hA with ⟨e, _⟩ | ⟨_, e, _⟩
      · exact e
      · rw [e] at hp
        exact absurd hp (by decide)
    have hQ1 := QR_P hQ0 hlt
    have hP := CV_P h.1 hlt hA.2.1
    obtain ⟨r, σ2, a, c2, j1, j2, j3, j4⟩ := rp_JF 13 20 20 (by decide) (by decide) sz (at_ + 1) 0 0 0 pr 0 (ni + no) pt (mP σ) (cP c) hQ1 (by omega) (by omega) (by omega) (by omega) (by omega)
    obtain ⟨a', c2', r1, at2, pc2, sc2, r2, _⟩ := rb_BF 20 sz (at_ + 1) 0 0 0 0 (ni + no) (cP c) hP.1 (fun e => by omega) (by omega) (by omega) (by omega)
    rw [j2] at r1
    cases r1
    unfold rBd cBd
    rw [j1, j2]
    simp only
    rcases j4 with ⟨e1, g⟩ | ⟨e1, e2, w, w1, w2⟩
    · subst e1
      rw [if_neg (by decide)]
      obtain ⟨at3, pc3, sc3, pt3, pn, y1, y2, y3, y4, y5, y6, y7, y8⟩ := g
      have hA2 := QR_A y1
      have hs2 : at3 ≤ sz := y1.1.2.2.2.1
      have hle := y2.2.1
      unfold rCl cCl
      rw [want_a hA2, ex_eq (v1 := 125) y1.1]
      simp only
      have hiff2 : sv sz at3 σ2 = 125 ↔ pk sz at3 c2 = 125 := sv_ia hA2 (x := 125) (by decide) (by decide)
      by_cases hp2 : sv sz at3 σ2 = 125
      · rw [if_pos hp2, if_pos (hiff2.mp hp2)]
        simp only
        rw [if_neg (by decide)]
        have hlt2 : at3 < sz := by
          rcases sv_a hA2 with ⟨e, _⟩ | ⟨_, e, _⟩
          · exact e
          · rw [e] at hp2
            exact absurd hp2 (by decide)
        have hQ3 := QR_P y1 hlt2
        have h10 : (mP σ2).1 10 = Int32.ofNat pr := hQ3.2.2.2.2.2.2.2.2.2.1.1
        have hp6 : pr < 6 := hQ3.2.2.2.2.2.2.2.2.2.1.2.1
        have h19 : (mP σ2).1 19 = Int32.ofNat pt3 := hQ3.2.2.2.2.2.2.2.2.2.2.1
        rw [rFn_eq h10 hp6 h19]
        obtain ⟨f, f1, f2⟩ := fin_eq (nm := σ.2 11 pr) (ni := Int32.ofNat ni) (no := Int32.ofNat no) (b := some a) hQ3.1
        rw [f1]
        have hP2 := CV_P y1.1 hlt2 y1.2.1
        have hall := CV_tr hP (CV_tr y2 hP2)
        have hrH : rH pr pt σ (fnS pr pt3 ((mP σ2).1 34) (mP σ2)) := rH_tr (rH_U (rU_tr (pc' := 0) (pt' := pt) (pc := 0) (tr := 0) rU_P (rU_tr y3 (rU_P (pc := pc3) (pt := pt3)) (by omega) y5) (Nat.le_refl _) (Nat.le_refl _))) rH_fn
        have e11 : σ2.2 11 = σ.2 11 := y3.1.2 11 (by decide) (by decide) (by decide) (by decide) (by decide) (by decide)
        refine ⟨1, _, _, _, rfl, rfl, hrH.1, Or.inl ⟨rfl, ?_, ?_, hrH, ⟨at3 + 1, pt3, ?_, y5⟩, fun hn => ?_⟩⟩
        · exact hall.2.2.2.2.1.1 9 (by decide) (by decide) (by decide)
        · exact e11
        · obtain ⟨q1, q2, q3, q4, q5, q6, q7, q8, q9, q10, q11, q12, q13, q14, q15⟩ := hQ3
          refine ⟨⟨CW_T q1, q2, q3, q4, q5⟩, q6, q7, q8, ⟨rfl, by omega⟩, ⟨q11, by omega⟩, fw_2 q12, q13, q14, ?_⟩
          show upd (σ2.2 49) (pr + 1) (Int32.ofNat pt3) (pr + 1) = _
          rw [upd_eq]
        · have hn2 : noF c2 := hn
          have hnR := y8 hn2
          have hpc : pc3 ≤ 30 := hQ3.2.2.2.2.2.2.2.2.2.1.2.2.2.1 hn.2.2
          have hmin : min pc3 30 = pc3 := Nat.min_eq_left hpc
          have hno1 : 1 ≤ no := hno (Classical.byContradiction fun e => hall.2.2.2.2.1.2.2.2.2.2.2.2 2 (by decide) (by decide) e hn2.1)
          have h26 := CS_26 h.1.2.2.2.2.2.2.2.2.2.2.2.2.2.2
          obtain ⟨x1, x2, x3, x4, x5, x6, x7⟩ := hL
          have hbit : ∀ l, l < 26 → c.2.1 3 l ≠ 0 → c2.2.1 3 l = c.2.1 3 l := fun l hl h0 => y2.2.2.2.2.1.2.2.2.2.1 l hl h0
          have eW : ∀ j, j ≠ 30 → j ≠ 31 → j ≠ 33 → j ≠ 17 → j ≠ 18 → (j < 20 ∨ 26 < j) → σ2.2 j = σ.2 j := fun j a b d e f g => y3.1.2 j a b d e f g
          have hnx : c.2.2.2.2.1 ≤ c2.2.2.2.2.1 := y2.2.2.2.2.2.1.1
          have hE : ∀ q, q < c2.2.2.2.2.1 → (cD (min pc3 30) f (σ.2 11 pr) (Int32.ofNat ni) (Int32.ofNat no) (some a) (cP c2)).2.2.2.1 q = c2.2.2.2.1 q := fun q hq => by
            show eset (eset c2.2.2.2.1 c2.2.2.2.2.1 _) (c2.2.2.2.2.1 + 1) _ q = _
            rw [eset_ne (by omega), eset_ne (by omega)]
          have hEP : (cD (min pc3 30) f (σ.2 11 pr) (Int32.ofNat ni) (Int32.ofNat no) (some a) (cP c2)).2.2.2.1 (c2.2.2.2.2.1 + 1) = some (.inr (3, [.int (σ.2 11 pr), .int (Int32.ofNat ni), .int (Int32.ofNat no), .ref a, .ref c2.2.2.2.2.1])) := eset_eq
          have hEa : (cD (min pc3 30) f (σ.2 11 pr) (Int32.ofNat ni) (Int32.ofNat no) (some a) (cP c2)).2.2.2.1 c2.2.2.2.2.1 = some (.inl (0, min pc3 30, .inl f)) := by
            show eset (eset c2.2.2.2.1 c2.2.2.2.2.1 _) (c2.2.2.2.2.1 + 1) _ c2.2.2.2.2.1 = _
            rw [eset_ne (by omega), eset_eq]
          refine ⟨ni, no, li, lo, c2.2.1 3, Gc (cP c), a, 7 * (13 - 0), ((Int32.ofNat pn, a), (pt, pt3), ((cP c).2.2.2.2.1, c2.2.2.2.2.1), (0, pc3)), c2.2.2.2.2.1, f, ⟨⟨hp6, ?_, ?_, h26, fun i hi => ?_, fun i hi => ?_⟩, ⟨fun i hi => ?_, fun i hi => ?_⟩, fun i j hi hj hne => bits_dj y1.1.2.2.2.2.2.2.2.2.2.2.2.2.2.2 hi hj hne, fun j hj => ?_, ?_, ?_, ?_, ?_, by omega, ?_, ?_, ?_, ?_, rfl, ?_, ?_, ?_, fun i hi => ?_, hno1, ?_⟩, ?_, ?_, ?_⟩
          · show σ2.2 12 pr = _
            rw [eW 12 (by decide) (by decide) (by decide) (by decide) (by decide) (by decide)]; exact x1
          · show σ2.2 14 pr = _
            rw [eW 14 (by decide) (by decide) (by decide) (by decide) (by decide) (by decide)]; exact x2
          · show σ2.2 13 _ = _ ∧ _
            rw [eW 13 (by decide) (by decide) (by decide) (by decide) (by decide) (by decide)]
            exact ⟨(x4 i hi).1, (x4 i hi).2.1⟩
          · show σ2.2 15 _ = _ ∧ _
            rw [eW 15 (by decide) (by decide) (by decide) (by decide) (by decide) (by decide)]
            exact ⟨(x5 i hi).1, (x5 i hi).2.1⟩
          · obtain ⟨_, z2, z3, _⟩ := x4 i hi
            rw [hbit _ z2 (by rw [z3]; exact p2_nz (by omega)), z3]
          · obtain ⟨_, z2, z3, _⟩ := x5 i hi
            rw [hbit _ z2 (by rw [z3]; exact p2_nz (by omega)), z3]
          · have ht := (HL_told h.1 ⟨x1, x2, x3, x4, x5, x6, x7⟩ hj).1
            have hg : Gc (cP c) j = true ↔ σ.2 31 j ≠ 0 := by
              show (!decide (c.2.1 3 j &&& c.1 12 = 0)) = true ↔ _
              have e1 := (x7 j hj).trans ht.symm
              by_cases h0 : c.2.1 3 j &&& c.1 12 = 0
              · have := e1.mpr h0
                simp [h0, this]
              · have : ¬ (σ.2 31 j = 0) := fun e => h0 (e1.mp e)
                simp [h0, this]
            rw [hg]
            constructor
            · intro e
              exact x6 j hj e
            · rintro (⟨i, i1, i2⟩ | ⟨i, i1, i2⟩)
              · rw [← i2, (x4 i i1).2.2.2]; decide
              · rw [← i2, (x5 i i1).2.2.2]; decide
          · show egI _ (c2.2.2.2.2.1 + 1) 3 0 = some (σ2.2 11 pr)
            unfold egI eg
            rw [hEP, e11]
            rfl
          · show egI _ (c2.2.2.2.2.1 + 1) 3 1 = _
            unfold egI eg
            rw [hEP]
            rfl
          · show egI _ (c2.2.2.2.2.1 + 1) 3 2 = _
            unfold egI eg
            rw [hEP]
            rfl
          · show egR _ (c2.2.2.2.2.1 + 1) 3 3 = _
            unfold egR eg
            rw [hEP]
            rfl
          · show (Int32.ofNat pn, a) = (upd (σ2.2 16) pr (σ2.1 34) pr, a)
            rw [upd_eq, y6]
          · refine nR_ext _ _ _ _ (nR_cg (T' := (fnS pr pt3 ((mP σ2).1 34) (mP σ2)).2) (fun j b1 b2 => ?_) _ _ _ _ hnR) ⟨fun _ _ _ _ _ _ _ => rfl, fun q _ hq _ => hE q hq, fun j _ => ?_, fun _ => ?_⟩ (fun _ _ _ => rfl)
            · show gm_up (gm_up _ _ _) _ _ j = _
              unfold gm_up
              rw [if_neg (by omega), if_neg (by omega)]
              rfl
            · exact eg_E (hE a y7.2.2.2.1)
            · exact hE a y7.2.2.2.1
          · show upd (σ2.2 49) (pr + 1) (Int32.ofNat pt3) pr = Int32.ofNat pt
            rw [upd_ne (by omega), eW 49 (by decide) (by decide) (by decide) (by decide) (by decide) (by decide)]
            exact h49
          · show upd (σ2.2 49) (pr + 1) (Int32.ofNat pt3) (pr + 1) = Int32.ofNat pt3
            rw [upd_eq]
          · exact hQ3.2.2.2.2.2.2.2.2.2.1.2.2.1
          · show egR _ (c2.2.2.2.2.1 + 1) 3 4 = _
            unfold egR eg
            rw [hEP]
            rfl
          · exact hEa.trans (by rw [hmin])
          · rw [f2 i (by rw [hmin]; exact hi)]
            have hi' : i < pc3 := hi
            exact (hQ3.2.2.2.2.2.2.2.2.2.1.2.2.2.2 i hi' (by omega)).symm
          · omega
          · show c2.2.2.2.2.1 ≤ c2.2.2.2.2.1 + 2
            omega
          · show c2.2.2.2.2.1 < c2.2.2.2.2.1 + 2
            omega
          · show c2.2.2.2.2.1 + 1 < c2.2.2.2.2.1 + 2
            omega
      · rw [if_neg hp2, if_neg (fun e => hp2 (hiff2.mpr e))]
        simp only
        rw [if_pos trivial]
        have hr := CW_R y1.1
        obtain ⟨f, f1, _⟩ := fin_eq (nm := σ.2 11 pr) (ni := Int32.ofNat ni) (no := Int32.ofNat no) (b := some a) hr.1
        rw [f1]
        refine JE_st (c1 := cR c2) (rV_tr rV_P (rV_W y3.1)) (by omega) y1.2.2.2.1 (hr.2.2.1 y1.2.1) ⟨_, _, rfl, rfl⟩
    · subst e1
      rw [if_pos rfl]
      have hb2 : c2.2.1 2 1 ≠ 501 := by
        rw [e2, w2]
        intro e
        have := (eq_N (b := 501) (by omega) (by decide)).mp e
        omega
      exact JE_st (c1 := c2) (rV_tr rV_P (rV_W j3)) w1 w2 (e2.trans w2) (cl_b r2.1 hb2)
  · rw [if_neg hp, if_neg (fun e => hp (hiff.mpr e))]
    simp only
    rw [if_pos trivial]
    have hr := CW_R h.1
    exact JE_st (c1 := cR c) rV_rf (by omega) hA.2.2.2.1 (hr.2.2.1 hA.2.1) (bd_b hr.1 hr.2.1)
end H7
