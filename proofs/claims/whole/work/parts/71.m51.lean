def pzA (A : Nat → Nat → Int32) (pr pc pt start : Nat) : Nat → Nat → Int32 := gm_up (gm_up (mkA (gm_up A 17 (upd (A 17) pr (Int32.ofNat (pc + 1)))) pt 1 (-1) (Int32.ofNat pc)) 25 (upd (mkA (gm_up A 17 (upd (A 17) pr (Int32.ofNat (pc + 1)))) pt 1 (-1) (Int32.ofNat pc) 25) pt ((1 : Int32) <<< (Int32.ofNat pc &&& 31)))) 18 (upd (A 18) (30 * pr + pc) (Int32.ofNat start))
section J4
variable {sz at_ dp lc tr pr pc sc pt : Nat} {σ : gm_S} {c : ck_S}
theorem pzA_o {A : Nat → Nat → Int32} {start j : Nat} (h : j < 20 ∨ 26 < j) (h17 : j ≠ 17) (h18 : j ≠ 18) : pzA A pr pc pt start j = A j := by
  unfold pzA gm_up
  rw [if_neg h18, if_neg (by omega), mk_o h, if_neg h17]
theorem pzA_lt {A : Nat → Nat → Int32} {start j q : Nat} (h1 : 20 ≤ j) (h2 : j ≤ 26) (hq : q ≠ pt) : pzA A pr pc pt start j q = A j q := by
  unfold pzA gm_up
  rw [if_neg (by omega)]
  by_cases h25 : j = 25
  · rw [if_pos h25, upd_ne hq, mk_ne hq, if_neg (by omega), h25]
  · rw [if_neg h25, mk_ne hq, if_neg (by omega)]
theorem pz_20 {A : Nat → Nat → Int32} {start : Nat} : pzA A pr pc pt start 20 pt = 1 := (upd_eq : upd (A 20) pt 1 pt = 1)
theorem pz_23 {A : Nat → Nat → Int32} {start : Nat} : pzA A pr pc pt start 23 pt = -1 := (upd_eq : upd (A 23) pt (-1) pt = -1)
theorem pz_24 {A : Nat → Nat → Int32} {start : Nat} : pzA A pr pc pt start 24 pt = -1 := (upd_eq : upd (A 24) pt (-1) pt = -1)
theorem pz_25 {A : Nat → Nat → Int32} {start : Nat} : pzA A pr pc pt start 25 pt = (1 : Int32) <<< (Int32.ofNat pc &&& 31) := (upd_eq : upd (upd (A 25) pt 0) pt ((1 : Int32) <<< (Int32.ofNat pc &&& 31)) pt = _)
theorem pz_26 {A : Nat → Nat → Int32} {start : Nat} : pzA A pr pc pt start 26 pt = 2 := (upd_eq : upd (A 26) pt 2 pt = 2)
theorem pause_j {start : Nat} {hh tq : Nat} (hh1 : 1 ≤ hh) (h : QR sz at_ dp lc tr pr pc sc pt σ c) (hpt : pt < 2600) (hp1 : pc + 1 ≤ at_) (hs : start ≤ 500) (htr : tq ≤ 14) :
    ∃ σ' c', sp_Md_pause (Int32.ofNat start) σ = some (Int32.ofNat pt, σ') ∧ sp_Rd_newPause (Int32.ofNat start) c = some (some c.2.2.2.2.1, c') ∧ VX 1 hh tq sz at_ dp lc tr pr pc sc pt σ c (Int32.ofNat pt) σ' c.2.2.2.2.1 c' at_ (pc + 1) sc (pt + 1) pt ∧ c'.2.2.2.2.1 = c.2.2.2.2.1 + 1 ∧ c'.2.1 3 = c.2.1 3 ∧ σ'.1 35 = σ.1 35 ∧ σ'.1 19 = Int32.ofNat (pt + 1) ∧ σ'.2 26 pt = 2 := by
  have hQ := h
  obtain ⟨q1, q2, q3, q4, q5, q6, q7, q8, q9, ⟨p1, p2, p3, p4, p5⟩, q11, q12, q13, q14, q15⟩ := h
  have hs5 : sz ≤ 500 := q1.2.1
  have hat : at_ ≤ sz := q1.2.2.2.1
  have hz := CW_Z (start := start) q1 hp1 hs
  have hzh : (cZ pc start c).2.2 = c.2.2 := cZ_h
  have hcls := pause_eq (start := start) q1
  have hmk := mk_eq (σ := (σ.1, gm_up σ.2 17 (upd (σ.2 17) pr (Int32.ofNat (pc + 1))))) (n := pt) (kd := 1) (x := -1) (v := Int32.ofNat pc) q11 hpt
  have hnx : (cM (cZ pc start c) (nC 1 (pV pc) none (pV pc) 2 none)).2.2.2.2.1 = c.2.2.2.2.1 + 1 := by
    show (cZ pc start c).2.2.2.2.1 + 1 = _
    rw [hzh]
  have hcell : (cM (cZ pc start c) (nC 1 (pV pc) none (pV pc) 2 none)).2.2.2.1 c.2.2.2.2.1 = some (nC 1 (pV pc) none (pV pc) 2 none) := by
    show eset (cZ pc start c).2.2.2.1 (cZ pc start c).2.2.2.2.1 _ _ = _
    rw [hzh]
    exact eset_eq
  have hcv : CV sz at_ dp lc tr pc sc c (cM (cZ pc start c) (nC 1 (pV pc) none (pV pc) 2 none)) at_ (pc + 1) sc := CV_tr hz (CV_M hz.1)
  by_cases h30 : pc < 30
  · have hcz : cZ pc start c = (upd c.1 16 (Int32.ofNat (pc + 1)), gm_up c.2.1 5 (upd (c.2.1 5) pc (Int32.ofNat start)), c.2.2) := if_pos h30
    have hpv : pV pc = (1 : Int32) <<< (Int32.ofNat pc &&& 31) := if_pos h30
    have href : sp_Md_pause (Int32.ofNat start) σ = some (Int32.ofNat pt, (upd σ.1 19 (Int32.ofNat (pt + 1)), pzA σ.2 pr pc pt start)) := by
      unfold sp_Md_pause
      rw [p1, if_pos (gi_of (by omega : pr < 7) (by decide)), cl_of (by omega), p3, ofN_s]
      rw [hmk]
      simp only
      rw [if_neg (show ¬ ((30 : Int32) ≤ Int32.ofNat pc) from fun e => by have := (le_N (a := 30) (by decide) (by omega)).mp e; omega), if_pos (gi_of hpt (by decide)), cl_of (by omega)]
      have e10 : (upd σ.1 19 (Int32.ofNat (pt + 1))) 10 = Int32.ofNat pr := p1
      have hix : (30 : Int32) * Int32.ofNat pr + Int32.ofNat pc = Int32.ofNat (30 * pr + pc) := by
        rw [show (30 : Int32) = Int32.ofNat 30 from rfl, ofN_mul, ofN_add]
      rw [e10, hix, if_pos (gi_of (by omega : 30 * pr + pc < 210) (by decide)), cl_of (by omega)]
      rfl
    have h25 : pzA σ.2 pr pc pt start 25 pt = pV pc := by rw [hpv]; exact pz_25
    have h26 : pzA σ.2 pr pc pt start 26 pt = 2 := pz_26
    have h24 : pzA σ.2 pr pc pt start 24 pt = -1 := pz_24
    have h17 : pzA σ.2 pr pc pt start 17 = upd (σ.2 17) pr (Int32.ofNat (pc + 1)) := rfl
    have h18 : pzA σ.2 pr pc pt start 18 = upd (σ.2 18) (30 * pr + pc) (Int32.ofNat start) := rfl
    have e30 : pzA σ.2 pr pc pt start 30 = σ.2 30 := pzA_o (by omega) (by decide) (by decide)
    have e31 : pzA σ.2 pr pc pt start 31 = σ.2 31 := pzA_o (by omega) (by decide) (by decide)
    refine ⟨_, _, href, hcls, ⟨?_, hcv, ?_, by omega, by omega, rfl, ⟨Nat.le_refl _, Nat.lt_succ_self _, Nat.le_refl _, by rw [hnx]; omega, Or.inl rfl, h24, by show b16 (pzA σ.2 pr pc pt start 26 pt); rw [h26]; exact b16_2, 1, pV pc, none, ?_⟩, fun hn => ?_⟩, hnx, by rw [hcz]; rfl, rfl, rfl, h26⟩
    · refine ⟨hcv.1, by rw [hcz]; exact q2, q3, q4, by simp only; rw [pzA_o (j := 4) (by omega) (by decide) (by decide), hcz]; exact q5, q6, q7, q8, by simp only; rw [pzA_o (j := 33) (by omega) (by decide) (by decide), hcz]; exact q9, ⟨p1, p2, ?_, fun _ => by omega, fun i hi hi3 => ?_⟩, rfl, ?_, ?_, ?_, ?_⟩
      · simp only
        rw [h17, upd_eq]
      · simp only
        rw [h18, hcz]
        show upd (σ.2 18) (30 * pr + pc) (Int32.ofNat start) (30 * pr + i) = upd (c.2.1 5) pc (Int32.ofNat start) i
        by_cases hip : i = pc
        · subst hip
          rw [upd_eq, upd_eq]
        · rw [upd_ne (by omega), upd_ne hip]
          exact p5 i (by omega) hi3
      · unfold fr2
        simp only
        rw [e30, e31, hcz]
        exact q12
      · unfold frk
        simp only
        rw [e30, hcz]
        exact q13
      · unfold frk
        simp only
        rw [e30, hcz]
        exact q14
      · simp only
        rw [e31, hcz]
        exact q15
    · refine ⟨⟨fun j _ _ _ _ h19 _ _ => upd_ne h19, fun j _ _ _ h17' h18' hj => pzA_o hj h17' h18'⟩, fun l _ => by simp only; rw [e31], fun i hi => by simp only; rw [h17, upd_ne hi], fun i hi => by simp only; rw [h18, upd_ne (by omega)], fun j q j1 j2 hq => pzA_lt j1 j2 (by omega), fun i _ => by simp only; rw [pzA_o (j := 33) (by omega) (by decide) (by decide)]⟩
    · rw [hcell]
      simp only
      rw [h25, h26]
    · have := nR_leaf (T := pzA σ.2 pr pc pt start) (E := (cM (cZ pc start c) (nC 1 (pV pc) none (pV pc) 2 none)).2.2.2.1) (β := (cM (cZ pc start c) (nC 1 (pV pc) none (pV pc) 2 none)).2.1 3) (n := hh - 1) (t := tq) (Γ := Gc c) (pn := pt) (a := c.2.2.2.2.1) (u := pc) (v := pc + 1) (kd := 1) (vl := pV pc) hpt htr pz_20 pz_23 (by rw [hcell, h25, h26]) (by omega) (by omega) (fun i => by
        rw [h25, hpv, bt_p2 (by omega)]
        by_cases hi : i = pc
        · have : pc ≤ i ∧ i < pc + 1 := by omega
          simp [hi]
        · have : ¬ (pc ≤ i ∧ i < pc + 1) := by omega
          simp [hi, this]) (fun e => absurd rfl e) (by rw [h26]; rfl) (Or.inr (Or.inl ⟨pz_20, rfl, rfl, h25.symm⟩))
      rw [show hh - 1 + 1 = hh by omega] at this
      rw [hnx]
      exact this
  · have hcz : cZ pc start c = cN 4 start (upd c.1 16 (Int32.ofNat (pc + 1)), c.2) := if_neg h30
    have hpv : pV pc = 0 := if_neg h30
    have hA : ∀ j, (j < 20 ∨ 26 < j) → j ≠ 17 → mkA (gm_up σ.2 17 (upd (σ.2 17) pr (Int32.ofNat (pc + 1)))) pt 1 (-1) (Int32.ofNat pc) j = σ.2 j := fun j hj h17 => by
      rw [mk_o hj]
      exact if_neg h17
    have href : sp_Md_pause (Int32.ofNat start) σ = some (Int32.ofNat pt, mN 4 start (upd σ.1 19 (Int32.ofNat (pt + 1)), mkA (gm_up σ.2 17 (upd (σ.2 17) pr (Int32.ofNat (pc + 1)))) pt 1 (-1) (Int32.ofNat pc))) := by
      unfold sp_Md_pause
      rw [p1, if_pos (gi_of (by omega : pr < 7) (by decide)), cl_of (by omega), p3, ofN_s]
      rw [hmk]
      simp only
      rw [if_pos (show (30 : Int32) ≤ Int32.ofNat pc from (le_N (a := 30) (by decide) (by omega)).mpr (by omega))]
      have e4 : ∀ z, sp_Md_note 4 (Int32.ofNat start) z = some (mN 4 start z) := fun z => mn_eq (k := 4) (by decide)
      rw [e4]
    generalize hσ1 : ((upd σ.1 19 (Int32.ofNat (pt + 1)), mkA (gm_up σ.2 17 (upd (σ.2 17) pr (Int32.ofNat (pc + 1)))) pt 1 (-1) (Int32.ofNat pc)) : gm_S) = σ1 at href
    have hn4 : c.2.1 2 4 ≠ 501 ∨ pc = 30 := by
      by_cases e : c.2.1 2 4 = 501
      · have := p4 e
        exact Or.inr (by omega)
      · exact Or.inl e
    have hW1 : CW sz at_ dp lc tr (pc + 1) sc (upd c.1 16 (Int32.ofNat (pc + 1)), c.2) := by
      obtain ⟨h1, h2, h3, h4, h5, h6, h7, h8, h9, h10, h11, h12, h13, h14, h15⟩ := q1
      exact ⟨h1, h2, h3, h4, h5, h6, h7, h8, h9, h10, h11, rfl, hp1, h14, h15⟩
    obtain ⟨a1, a2, a3⟩ := mN_o (σ := σ1) (k := 4) (w := start)
    obtain ⟨m1, m2⟩ := mN_k (σ := σ1) (k := 4) hs
    obtain ⟨n1, n2⟩ := cN_k (c := (upd c.1 16 (Int32.ofNat (pc + 1)), c.2)) (k := 4) hs
    have s1 : σ1.1 = upd σ.1 19 (Int32.ofNat (pt + 1)) := by rw [← hσ1]
    have sA : ∀ j, (j < 20 ∨ 26 < j) → j ≠ 17 → σ1.2 j = σ.2 j := fun j hj h17 => by rw [← hσ1]; exact hA j hj h17
    have s17 : σ1.2 17 = upd (σ.2 17) pr (Int32.ofNat (pc + 1)) := by
      rw [← hσ1]
      rfl
    have hnoF : ¬ noF (cM (cZ pc start c) (nC 1 (pV pc) none (pV pc) 2 none)) := by
      intro hno
      have e : (cN 4 start (upd c.1 16 (Int32.ofNat (pc + 1)), c.2)).2.1 2 4 = 501 := by rw [← hcz]; exact hno.2.2
      exact (CW_N (k := 4) (w := start) (by decide) (by decide) hs hW1).2.2 e
    have tP : ∀ j q, 20 ≤ j → j ≤ 26 → q < pt → (mN 4 start σ1).2 j q = σ.2 j q := fun j q j1 j2 hq => by
      rw [a2 j (by omega), ← hσ1]
      refine Eq.trans (mk_ne (A := gm_up σ.2 17 (upd (σ.2 17) pr (Int32.ofNat (pc + 1)))) (kd := 1) (x := -1) (v := Int32.ofNat pc) (n := pt) (by omega)) ?_
      unfold gm_up
      rw [if_neg (by omega)]
    have v25 : (mN 4 start σ1).2 25 pt = 0 := by
      rw [a2 25 (by decide), ← hσ1]
      exact (upd_eq : upd (σ.2 25) pt (0 : Int32) pt = 0)
    have v26 : (mN 4 start σ1).2 26 pt = 2 := by
      rw [a2 26 (by decide), ← hσ1]
      exact (upd_eq : upd (σ.2 26) pt (2 : Int32) pt = 2)
    have v24 : (mN 4 start σ1).2 24 pt = -1 := by
      rw [a2 24 (by decide), ← hσ1]
      exact (upd_eq : upd (σ.2 24) pt (-1 : Int32) pt = -1)
    refine ⟨_, _, href, hcls, ⟨?_, hcv, ?_, by omega, by omega, rfl, ⟨Nat.le_refl _, Nat.lt_succ_self _, Nat.le_refl _, by rw [hnx]; omega, Or.inl rfl, v24, by rw [v26]; exact b16_2, 1, pV pc, none, ?_⟩, fun hn => absurd hn hnoF⟩, hnx, by rw [hcz]; rfl, by rw [a1, s1]; rfl, by rw [a1, s1]; rfl, v26⟩
    · refine ⟨hcv.1, by rw [hcz]; exact q2, by rw [a1, s1]; exact q3, by rw [a1, s1]; exact q4, by rw [a2 4 (by decide), sA 4 (by omega) (by decide), hcz]; exact q5, by rw [a1, s1]; exact q6, by rw [a1, s1]; exact q7, by rw [a1, s1]; exact q8, by rw [a2 33 (by decide), sA 33 (by omega) (by decide), hcz]; exact q9, ⟨by rw [a1, s1]; exact p1, p2, by rw [a2 17 (by decide), s17, upd_eq], fun e => absurd e ?_, fun i hi hi3 => ?_⟩, by rw [a1, s1]; rfl, ?_, ?_, ?_, ?_⟩
      · show (cM (cZ pc start c) _).2.1 2 4 ≠ 501
        rw [hcz]
        exact (CW_N (k := 4) (w := start) (by decide) (by decide) hs hW1).2.2
      · rw [a2 18 (by decide), sA 18 (by omega) (by decide), hcz]
        exact p5 i (by omega) hi3
      · unfold fr2
        rw [a3 2 (by decide), sA 30 (by omega) (by decide), a2 31 (by decide), sA 31 (by omega) (by decide), hcz]
        exact q12
      · unfold frk
        rw [a3 3 (by decide), sA 30 (by omega) (by decide), hcz]
        exact q13
      · have hc4 : (cM (cZ pc start c) (nC 1 (pV pc) none (pV pc) 2 none)).2.1 2 4 = (cN 4 start (upd c.1 16 (Int32.ofNat (pc + 1)), c.2)).2.1 2 4 := by rw [hcz]; rfl
        unfold frk
        rw [hc4]
        have s30 : σ1.2 30 4 = σ.2 30 4 := by rw [sA 30 (by omega) (by decide)]
        rcases q14 with ⟨e1, e2⟩ | ⟨z, z1, z2, z3⟩
        · exact Or.inr ⟨start, hs, n1 e1, m1 (by rw [s30]; exact e2)⟩
        · exact Or.inr ⟨min z start, by omega, n2 z z1 z2, m2 z z1 (by rw [s30]; exact z3)⟩
      · rw [a2 31 (by decide), sA 31 (by omega) (by decide), hcz]
        exact q15
    · refine ⟨⟨fun j _ _ _ _ h19 _ _ => by rw [a1, s1, upd_ne h19], fun j h30' _ _ h17' _ hj => by rw [a2 j h30', sA j hj h17']⟩, fun l _ => by rw [a2 31 (by decide), sA 31 (by omega) (by decide)], fun i hi => by rw [a2 17 (by decide), s17, upd_ne hi], fun i hi => by rw [a2 18 (by decide), sA 18 (by omega) (by decide)], tP, fun i _ => by rw [a2 33 (by decide), sA 33 (by omega) (by decide)]⟩
    · rw [hcell, v25, v26, hpv]
end J4
