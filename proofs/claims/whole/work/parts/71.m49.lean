section J2
variable {sz at_ dp lc tr pr pc sc pt : Nat} {σ : gm_S} {c : ck_S}
theorem QR_Nm {w : Nat} (hw : w ≤ 500) (h : QR sz at_ dp lc tr pr pc sc pt σ c) (hf : c.2.1 2 2 ≠ 501) (hwa : ∀ z, z ≤ at_ → c.2.1 2 2 = Int32.ofNat z → z ≤ w) : QR sz at_ dp lc tr pr pc sc pt (mN 2 w σ) c := by
  obtain ⟨h1, h2, h3, h4, h5, h6, h7, h8, h9, h10, h11, h12, h13, h14, h15⟩ := h
  obtain ⟨a1, a2, a3⟩ := mN_o (σ := σ) (k := 2) (w := w)
  obtain ⟨m1, m2⟩ := mN_k (σ := σ) (k := 2) hw
  have hs : sz ≤ 500 := h1.2.1
  have ha : at_ ≤ sz := h1.2.2.2.1
  refine ⟨h1, h2, by rw [a1]; exact h3, by rw [a1]; exact h4, by rw [a2 4 (by decide)]; exact h5, by rw [a1]; exact h6, by rw [a1]; exact h7, by rw [a1]; exact h8, by rw [a2 33 (by decide)]; exact h9, by rw [a1, a2 17 (by decide), a2 18 (by decide)]; exact h10, by rw [a1]; exact h11, ?_, by unfold frk; rw [a3 3 (by decide)]; exact h13, by unfold frk; rw [a3 4 (by decide)]; exact h14, by rw [a2 31 (by decide)]; exact h15⟩
  rcases h12 with ⟨e1, _⟩ | ⟨z, z1, z2, z3⟩
  · exact absurd e1 hf
  · refine Or.inr ⟨z, z1, z2, ?_⟩
    rw [m2 z (by omega) z3, Nat.min_eq_left (hwa z z1 z2)]
theorem let_j (h : QR sz at_ dp lc tr pr pc sc pt σ c) : (q_in (pk sz at_ c) 97 122 = 0 ∧ sp_Md_takeLetter σ = some (-1, σ)) ∨ (∃ l, l < 26 ∧ at_ < sz ∧ pk sz at_ c = Int32.ofNat (l + 97) ∧ ¬ q_in (pk sz at_ c) 97 122 = 0 ∧ sp_Md_takeLetter σ = some (Int32.ofNat l, mP σ)) := by
  have hs : sz ≤ 500 := h.1.2.1
  have h27 : σ.1 27 = Int32.ofNat at_ := h.2.2.2.1
  unfold sp_Md_takeLetter
  rw [see_eq h]
  simp only
  rcases sv_pk h with ⟨hl, ch, c1, c2, c3, c4⟩ | ⟨_, c1, c2⟩
  · rw [c3, c4]
    by_cases hin : q_in (Int32.ofNat ch) 97 122 = 0
    · rw [if_pos hin]
      exact Or.inl ⟨hin, rfl⟩
    · rw [if_neg hin, h27, ofN_s, sb2 (by omega), Nat.add_sub_cancel, if_pos (gi_of (by omega : at_ < 500) (by decide)), cl_of (by omega)]
      have hin' : ¬ q_in (pk sz at_ c) 97 122 = 0 := by rw [c4]; exact hin
      obtain ⟨_, _, l, l1, l2, l3⟩ := let_in h.1 hin'
      have hsv : σ.2 4 at_ = Int32.ofNat (l + 97) := by
        rw [h.2.2.2.2.1 at_ hl, l3]
      rw [hsv, (sub97 l1).1]
      refine Or.inr ⟨l, l1, hl, by rw [← c4]; exact l2, hin, ?_⟩
      unfold mP
      rw [h27, ofN_s]
  · rw [c1, c2]
    refine Or.inl ⟨by decide, ?_⟩
    rw [if_pos (by decide)]
theorem and_0 {x : Int32} : (0 : Int32) &&& x = 0 := by
  apply bt_az.mpr
  intro i hi
  rw [bt_0] at hi
  cases hi
def clN (e : Bool) (c : ck_S) : Option (Int32 × ck_S) := if e = true then sp_Rd_readEmittedSignal c else sp_Rd_readToldSignal c
theorem named_j (e : Bool) (h : QR sz at_ dp lc tr pr pc sc pt σ c) :
    (∃ s c1 σ', clN e c = some (s, c1) ∧ sp_Md_isNamed (if e = true then 1 else 0) σ = some (0, σ') ∧ c1.2.1 2 1 = Int32.ofNat at_ ∧ σ'.1 27 = Int32.ofNat at_ ∧ rW σ σ') ∨
    (∃ l c1 σ', l < 26 ∧ at_ < sz ∧ clN e c = some (c.2.1 3 l, c1) ∧ sp_Md_isNamed (if e = true then 1 else 0) σ = some (1, σ') ∧ σ'.1 35 = Int32.ofNat l ∧ c1.2.1 3 = c.2.1 3 ∧ QR sz (at_ + 1) dp lc tr pr pc sc pt σ' c1 ∧ rU pr pc pt tr σ σ' ∧ c1.2.2 = c.2.2 ∧ CV sz at_ dp lc tr pc sc c c1 (at_ + 1) pc sc ∧ (noF c1 → ¬ (c.2.1 3 l &&& c.1 12 = 0))) := by
  have hs : sz ≤ 500 := h.1.2.1
  have ha : at_ ≤ sz := h.1.2.2.2.1
  have h27 : σ.1 27 = Int32.ofNat at_ := h.2.2.2.1
  have h8 : c.1 8 = Int32.ofNat at_ := h.1.2.2.1
  rcases let_j h with ⟨hin, htl⟩ | ⟨l, hl26, hlt, hpk, hin, htl⟩
  · left
    have hr := CW_R h.1
    have htold : sp_Rd_readToldSignal c = some (0, cN 2 at_ (cR c)) := by
      unfold sp_Rd_readToldSignal
      rw [tb_eq h.1, if_pos hin]
      simp only
      rw [if_pos trivial, if_pos and_0, h8]
      have e2 : sp_Rd_note 2 (Int32.ofNat at_) (cR c) = some (cN 2 at_ (cR c)) := nt_eq (k := 2) (by decide)
      rw [e2]
    have hcl : clN e c = some (0, cN 2 at_ (cR c)) := by
      unfold clN
      cases e with
      | false => exact htold
      | true =>
        simp only [if_true]
        unfold sp_Rd_readEmittedSignal
        rw [htold]
        simp only
        rw [if_pos and_0]
    refine ⟨0, _, (upd σ.1 35 (-1), σ.2), hcl, ?_, ?_, ?_, ?_⟩
    · unfold sp_Md_isNamed
      rw [htl]
      simp only
      rw [if_pos trivial]
    · rw [(CW_N (k := 2) (w := at_) (by decide) (by decide) (by omega) hr.1).2.1]
      exact hr.2.2.1 h.2.1
    · show upd σ.1 35 (-1) 27 = _
      rw [upd_ne (by decide)]
      exact h27
    · exact ⟨fun j _ _ _ _ _ _ h35 => upd_ne h35, fun _ _ _ _ _ _ _ => rfl⟩
  · right
    have hQ := QR_P h hlt
    have hsub := sub97 hl26
    have hb : c.2.1 2 1 = 501 := h.2.1
    have hP := CV_P h.1 hlt hb
    have hQ35 : QR sz (at_ + 1) dp lc tr pr pc sc pt (upd (mP σ).1 35 (Int32.ofNat l), (mP σ).2) (cP c) := by
      obtain ⟨h1, h2, h3, h4, h5⟩ := hQ
      exact ⟨h1, h2, h3, h4, h5⟩
    have hrU35 : rU pr pc pt tr σ (upd (mP σ).1 35 (Int32.ofNat l), (mP σ).2) := by
      refine ⟨⟨fun j h27 _ _ _ _ _ h35 => ?_, fun _ _ _ _ _ _ _ => rfl⟩, fun _ _ => rfl, fun _ _ => rfl, fun _ _ => rfl, fun _ _ _ _ _ => rfl, fun _ _ => rfl⟩
      show upd (upd σ.1 27 (σ.1 27 + 1)) 35 _ j = _
      rw [upd_ne h35, upd_ne h27]
    generalize hσ2 : ((upd (mP σ).1 35 (Int32.ofNat l), (mP σ).2) : gm_S) = σ2 at hQ35 hrU35
    have hσ35 : σ2.1 35 = Int32.ofNat l := by rw [← hσ2]; rfl
    have hσ31 : ∀ q, σ2.2 31 q = σ.2 31 q := fun q => by rw [← hσ2]; rfl
    have e2 : ∀ z, sp_Rd_note 2 (Int32.ofNat at_) z = some (cN 2 at_ z) := fun z => nt_eq (k := 2) (by decide)
    have m2 : ∀ z, sp_Md_note 2 (Int32.ofNat at_) z = some (mN 2 at_ z) := fun z => mn_eq (k := 2) (by decide)
    have hTL := h.2.2.2.2.2.2.2.2.2.2.2.2.2.2 l hl26
    have htold : sp_Rd_readToldSignal c = some (c.2.1 3 l, if c.2.1 3 l &&& c.1 12 = 0 then cN 2 at_ (cP c) else cP c) := by
      unfold sp_Rd_readToldSignal
      rw [tb_eq h.1, if_neg hin]
      simp only
      rw [hpk, if_neg hsub.2, hsub.1, if_pos (gi_of hl26 (by decide)), cl_of (by omega), h8]
      have c12 : (cP c).1 12 = c.1 12 := rfl
      have c3 : (cP c).2.1 3 l = c.2.1 3 l := rfl
      rw [c12, c3]
      by_cases hz : c.2.1 3 l &&& c.1 12 = 0
      · rw [if_pos hz, if_pos hz, e2]
      · rw [if_neg hz, if_neg hz]
    have hnam : ∀ v : Int32, sp_Md_isNamed v σ = (if σ.2 31 l = 0 then some (1, mN 2 at_ σ2) else if v = 0 then some (1, σ2) else if σ.2 31 l = 1 then some (1, mN 2 at_ σ2) else some (1, σ2)) := by
      intro v
      unfold sp_Md_isNamed
      rw [htl]
      simp only
      have hne : ¬ (Int32.ofNat l = -1) := fun e' => by
        have h1 : (Int32.ofNat l).toInt = l := Int32.toInt_ofNat_of_lt (by omega)
        rw [e', show (-1 : Int32).toInt = -1 from rfl] at h1
        omega
      rw [if_neg hne, if_pos (gi_of hl26 (by decide)), cl_of (by omega), h27, hσ2, m2]
      rfl
    have fin : ∀ (σf : gm_S) (cf : ck_S), clN e c = some (c.2.1 3 l, cf) → sp_Md_isNamed (if e = true then 1 else 0) σ = some (1, σf) → σf.1 35 = Int32.ofNat l → cf.2.1 3 = c.2.1 3 → QR sz (at_ + 1) dp lc tr pr pc sc pt σf cf → rU pr pc pt tr σ σf → cf.2.2 = c.2.2 → CV sz at_ dp lc tr pc sc c cf (at_ + 1) pc sc → (noF cf → ¬ (c.2.1 3 l &&& c.1 12 = 0)) → _ := fun σf cf a1 a2 a3 a4 a5 a6 a7 a8 a9 => (⟨l, cf, σf, hl26, hlt, a1, a2, a3, a4, a5, a6, a7, a8, a9⟩ : ∃ l c1 σ', l < 26 ∧ at_ < sz ∧ clN e c = some (c.2.1 3 l, c1) ∧ sp_Md_isNamed (if e = true then 1 else 0) σ = some (1, σ') ∧ σ'.1 35 = Int32.ofNat l ∧ c1.2.1 3 = c.2.1 3 ∧ QR sz (at_ + 1) dp lc tr pr pc sc pt σ' c1 ∧ rU pr pc pt tr σ σ' ∧ c1.2.2 = c.2.2 ∧ CV sz at_ dp lc tr pc sc c c1 (at_ + 1) pc sc ∧ (noF c1 → ¬ (c.2.1 3 l &&& c.1 12 = 0)))
    have hNP : QR sz (at_ + 1) dp lc tr pr pc sc pt (mN 2 at_ σ2) (cN 2 at_ (cP c)) := QR_N (by decide) (by decide) (by omega) (fun _ => by omega) hQ35
    have hCVN : CV sz at_ dp lc tr pc sc c (cN 2 at_ (cP c)) (at_ + 1) pc sc := CV_tr hP (CV_N (by decide) (by decide) (by omega) hP.1)
    have hN35 : ∀ z : gm_S, z.1 35 = Int32.ofNat l → (mN 2 at_ z).1 35 = Int32.ofNat l := fun z hz => by rw [(mN_o (σ := z) (k := 2) (w := at_)).1]; exact hz
    have hN501 : ∀ z, CW sz (at_ + 1) dp lc tr pc sc z → ¬ noF (cN 2 at_ z) := fun z hz hno => (CW_N (k := 2) (w := at_) (by decide) (by decide) (by omega) hz).2.2 hno.1
    have hrUN : rU pr pc pt tr σ (mN 2 at_ σ2) := rU_tr hrU35 rU_N (Nat.le_refl _) (Nat.le_refl _)
    cases e with
    | false =>
      simp only [Bool.false_eq_true, if_false] at fin ⊢
      have hn0 := hnam 0
      have hcl : clN false c = sp_Rd_readToldSignal c := rfl
      rw [hcl] at fin
      by_cases hz : c.2.1 3 l &&& c.1 12 = 0
      · rw [if_pos hz] at htold
        rw [if_pos (hTL.mpr hz)] at hn0
        exact fin _ _ htold hn0 (hN35 _ hσ35) rfl hNP hrUN rfl hCVN (fun hno => absurd hno (hN501 _ hP.1))
      · rw [if_neg hz] at htold
        rw [if_neg (fun e' => hz (hTL.mp e')), if_pos rfl] at hn0
        exact fin _ _ htold hn0 hσ35 rfl hQ35 hrU35 rfl hP (fun _ => hz)
    | true =>
      simp only [if_true] at fin ⊢
      have hn1 := hnam 1
      have hcl : clN true c = sp_Rd_readEmittedSignal c := rfl
      rw [hcl] at fin
      have hem : ∀ z, sp_Rd_readToldSignal c = some (c.2.1 3 l, z) → z.1 11 = c.1 11 → sp_Rd_readEmittedSignal c = some (c.2.1 3 l, if c.2.1 3 l &&& c.1 11 = 0 then z else cN 2 at_ z) := by
        intro z hz h11
        unfold sp_Rd_readEmittedSignal
        rw [hz]
        simp only
        rw [h11, h8, e2]
        by_cases hi : c.2.1 3 l &&& c.1 11 = 0
        · rw [if_pos hi, if_pos hi]
        · rw [if_neg hi, if_neg hi]
      rcases h.2.2.2.2.2.2.2.2.2.2.2.1 with ⟨f1, f2, f3⟩ | ⟨z, z1, z2, z3⟩
      · -- nothing noted yet: both note alike
        by_cases hz : c.2.1 3 l &&& c.1 12 = 0
        · rw [if_pos hz] at htold
          have h0 := hTL.mpr hz
          have hib : c.2.1 3 l &&& c.1 11 = 0 := Classical.byContradiction fun hne => by
            have := (f3 l hl26).mpr hne
            rw [h0] at this
            exact absurd this (by decide)
          have hem' := hem _ htold rfl
          rw [if_pos hib] at hem'
          rw [if_pos h0] at hn1
          exact fin _ _ hem' hn1 (hN35 _ hσ35) rfl hNP hrUN rfl hCVN (fun hno => absurd hno (hN501 _ hP.1))
        · rw [if_neg hz] at htold
          rw [if_neg (fun e' => hz (hTL.mp e')), if_neg (by decide)] at hn1
          have hem' := hem _ htold rfl
          by_cases hib : c.2.1 3 l &&& c.1 11 = 0
          · rw [if_pos hib] at hem'
            rw [if_neg (fun e' => (f3 l hl26).mp e' hib)] at hn1
            exact fin _ _ hem' hn1 hσ35 rfl hQ35 hrU35 rfl hP (fun _ => hz)
          · rw [if_neg hib] at hem'
            rw [if_pos ((f3 l hl26).mpr hib)] at hn1
            exact fin _ _ hem' hn1 (hN35 _ hσ35) rfl hNP hrUN rfl hCVN (fun hno => absurd hno (hN501 _ hP.1))
      · -- one is noted already: what is noted now changes nothing
        have hz501 : Int32.ofNat z ≠ 501 := fun e' => by
          have := (eq_N (b := 501) (by omega) (by decide)).mp e'
          omega
        have hf1 : (cP c).2.1 2 2 ≠ 501 := by
          show c.2.1 2 2 ≠ 501
          rw [z2]
          exact hz501
        have hwa1 : ∀ y, y ≤ at_ + 1 → (cP c).2.1 2 2 = Int32.ofNat y → y ≤ at_ := fun y hy e' => by
          have e'' : c.2.1 2 2 = Int32.ofNat y := e'
          rw [z2] at e''
          have := (eq_N (by omega) (by omega)).mp e''
          omega
        have hB1 : QR sz (at_ + 1) dp lc tr pr pc sc pt (mN 2 at_ σ2) (cP c) := QR_Nm (by omega) hQ35 hf1 hwa1
        have hB2 : QR sz (at_ + 1) dp lc tr pr pc sc pt σ2 (cN 2 at_ (cP c)) := QR_Nc (by omega) hQ35 hf1 hwa1
        have hnof : ¬ noF (cP c) := fun hno => hf1 hno.1
        have hv2 : (cN 2 at_ (cP c)).2.1 2 2 = Int32.ofNat z := by
          rw [(cN_k (c := cP c) (k := 2) (by omega : at_ ≤ 500)).2 z (by omega) z2, Nat.min_eq_left z1]
        have hf2 : (cN 2 at_ (cP c)).2.1 2 2 ≠ 501 := by rw [hv2]; exact hz501
        have hwa2 : ∀ y, y ≤ at_ + 1 → (cN 2 at_ (cP c)).2.1 2 2 = Int32.ofNat y → y ≤ at_ := fun y hy e' => by
          rw [hv2] at e'
          have := (eq_N (by omega) (by omega)).mp e'
          omega
        have hall : ∀ (σf : gm_S) (cf : ck_S), (σf = σ2 ∨ σf = mN 2 at_ σ2) → (cf = cP c ∨ cf = cN 2 at_ (cP c) ∨ cf = cN 2 at_ (cN 2 at_ (cP c))) → QR sz (at_ + 1) dp lc tr pr pc sc pt σf cf ∧ rU pr pc pt tr σ σf ∧ σf.1 35 = Int32.ofNat l ∧ cf.2.1 3 = c.2.1 3 ∧ cf.2.2 = c.2.2 ∧ CV sz at_ dp lc tr pc sc c cf (at_ + 1) pc sc ∧ ¬ noF cf := by
          intro σf cf h1 h2
          have hCV3 : CV sz at_ dp lc tr pc sc c (cN 2 at_ (cN 2 at_ (cP c))) (at_ + 1) pc sc := CV_tr hCVN (CV_N (by decide) (by decide) (by omega) hCVN.1)
          rcases h1 with h1 | h1 <;> rcases h2 with h2 | h2 | h2 <;> subst h1 h2
          · exact ⟨hQ35, hrU35, hσ35, rfl, rfl, hP, hnof⟩
          · exact ⟨hB2, hrU35, hσ35, rfl, rfl, hCVN, hN501 _ hP.1⟩
          · exact ⟨QR_Nc (by omega) hB2 hf2 hwa2, hrU35, hσ35, rfl, rfl, hCV3, hN501 _ hCVN.1⟩
          · exact ⟨hB1, hrUN, hN35 _ hσ35, rfl, rfl, hP, hnof⟩
          · exact ⟨hNP, hrUN, hN35 _ hσ35, rfl, rfl, hCVN, hN501 _ hP.1⟩
          · exact ⟨QR_Nc (by omega) hNP hf2 hwa2, hrUN, hN35 _ hσ35, rfl, rfl, hCV3, hN501 _ hCVN.1⟩
        have hσf : ∃ σf, sp_Md_isNamed 1 σ = some (1, σf) ∧ (σf = σ2 ∨ σf = mN 2 at_ σ2) := by
          rw [hn1]
          by_cases h0 : σ.2 31 l = 0
          · rw [if_pos h0]; exact ⟨_, rfl, Or.inr rfl⟩
          · rw [if_neg h0, if_neg (by decide)]
            by_cases h1 : σ.2 31 l = 1
            · rw [if_pos h1]; exact ⟨_, rfl, Or.inr rfl⟩
            · rw [if_neg h1]; exact ⟨_, rfl, Or.inl rfl⟩
        have hcf : ∃ cf, sp_Rd_readEmittedSignal c = some (c.2.1 3 l, cf) ∧ (cf = cP c ∨ cf = cN 2 at_ (cP c) ∨ cf = cN 2 at_ (cN 2 at_ (cP c))) := by
          by_cases hz : c.2.1 3 l &&& c.1 12 = 0
          · rw [if_pos hz] at htold
            rw [hem _ htold rfl]
            by_cases hib : c.2.1 3 l &&& c.1 11 = 0
            · rw [if_pos hib]; exact ⟨_, rfl, Or.inr (Or.inl rfl)⟩
            · rw [if_neg hib]; exact ⟨_, rfl, Or.inr (Or.inr rfl)⟩
          · rw [if_neg hz] at htold
            rw [hem _ htold rfl]
            by_cases hib : c.2.1 3 l &&& c.1 11 = 0
            · rw [if_pos hib]; exact ⟨_, rfl, Or.inl rfl⟩
            · rw [if_neg hib]; exact ⟨_, rfl, Or.inr (Or.inl rfl)⟩
        obtain ⟨σf, s1, s2⟩ := hσf
        obtain ⟨cf, t1, t2⟩ := hcf
        obtain ⟨u1, u2, u3, u4, u5, u6, u7⟩ := hall σf cf s2 t2
        exact fin _ _ t1 s1 u3 u4 u1 u2 u5 u6 (fun hno => absurd hno u7)
end J2
