section J16
variable {sz at_ dp lc tr pr pc sc pt n : Nat} {σ : gm_S} {c : ck_S} {f : gm_S → Option (Int32 × gm_S)} {g : ck_S → Option (Option Nat × ck_S)}
theorem QR_14 {nm : Int32} (ht : tr ≤ 13) (h : QR sz at_ dp lc tr pr pc sc pt σ c) : QR sz at_ dp lc (tr + 1) pr pc sc pt (upd σ.1 32 (Int32.ofNat (tr + 1)), gm_up σ.2 33 (upd (σ.2 33) tr nm)) (upd c.1 14 (Int32.ofNat (tr + 1)), gm_up c.2.1 4 (upd (c.2.1 4) tr nm), c.2.2) := by
  obtain ⟨q1, q2, q3, q4, q5, q6, q7, q8, q9, q10, q11, q12, q13, q14, q15⟩ := h
  refine ⟨CW_14 (d := tr + 1) (by omega) (al := gm_up c.2.1 4 (upd (c.2.1 4) tr nm)) (fun j hj => if_neg hj) q1, q2, q3, q4, q5, q6, q7, rfl, fun i hi => ?_, q10, q11, q12, q13, q14, q15⟩
  show upd (σ.2 33) tr nm i = upd (c.2.1 4) tr nm i
  by_cases e : i = tr
  · rw [e, upd_eq, upd_eq]
  · rw [upd_ne e, upd_ne e]
    exact q9 i (by omega)
theorem QR_14b (ht : tr ≤ 13) (h : QR sz at_ dp lc (tr + 1) pr pc sc pt σ c) : QR sz at_ dp lc tr pr pc sc pt (upd σ.1 32 (Int32.ofNat tr), σ.2) (upd c.1 14 (Int32.ofNat tr), c.2) := by
  obtain ⟨q1, q2, q3, q4, q5, q6, q7, q8, q9, q10, q11, q12, q13, q14, q15⟩ := h
  exact ⟨CW_14 (d := tr) (by omega) (al := c.2.1) (fun j _ => rfl) q1, q2, q3, q4, q5, q6, q7, rfl, fun i hi => q9 i (by omega), q10, q11, q12, q13, q14, q15⟩
theorem CV_14 {nm : Int32} {c2 : ck_S} {at2 pc2 sc2 : Nat} (h14 : c.1 14 = Int32.ofNat tr) (ht : tr ≤ 13) (h : CV sz at_ dp lc (tr + 1) pc sc (upd c.1 14 (Int32.ofNat (tr + 1)), gm_up c.2.1 4 (upd (c.2.1 4) tr nm), c.2.2) c2 at2 pc2 sc2) : CV sz at_ dp lc tr pc sc c (upd c2.1 14 (Int32.ofNat tr), c2.2) at2 pc2 sc2 := by
  obtain ⟨b1', b2, b3, b4, b5, b6, b7⟩ := h
  obtain ⟨a1, a2, a3, a4, a5, a6, a7, a8⟩ := b5
  refine ⟨CW_14 (by omega) (al := c2.2.1) (fun _ _ => rfl) b1', b2, b3, b4, ⟨fun j x y z => ?_, a2, a3, fun i hi => ?_, a5, a6, a7, a8⟩, b6, b7⟩
  · by_cases hj : j = 14
    · subst hj
      show upd c2.1 14 (Int32.ofNat tr) 14 = _
      rw [upd_eq, h14]
    · show upd c2.1 14 (Int32.ofNat tr) j = _
      rw [upd_ne hj, a1 j x y z]
      exact upd_ne hj
  · show c2.2.1 4 i = _
    rw [a4 i (by omega)]
    show upd (c.2.1 4) tr nm i = _
    rw [upd_ne (by omega)]
theorem trapped_j {nm : Int32} (h : QR sz at_ dp lc tr pr pc sc pt σ c) (hd : dp ≤ 12) (htr : tr ≤ dp) (hlc : lc ≤ dp) (hf : JF n f g) (hg : BF (n + 1) g) (hn : 12 - dp ≤ n) (hpt : pt ≤ 5 * at_ + 9) : ∃ r σ' a c', sp_Md_readInner f (upd σ.1 32 (Int32.ofNat (tr + 1)), gm_up σ.2 33 (upd (σ.2 33) tr nm)) = some (r, σ') ∧ sp_Rd_readTrapped g nm c = some (some a, c') ∧ rW σ σ' ∧ CU sz at_ dp lc tr pc sc c a c' ∧ ((r = 1 ∧ σ'.1 32 = Int32.ofNat (tr + 1) ∧ KG 11 (7 * (12 - dp)) (tr + 1) (Gc c) sz at_ dp lc tr pr pc sc pt σ c (σ'.1 34) (upd σ'.1 32 (Int32.ofNat tr), σ'.2) a c') ∨ (r = 0 ∧ FB σ' c')) := by
  have h14 : c.1 14 = Int32.ofNat tr := h.1.2.2.2.2.2.2.2.1
  have hQ := QR_14 (nm := nm) (by omega : tr ≤ 13) h
  obtain ⟨r, σ', a, c1, j1, j2, j3, j4⟩ := body_j hQ hd (by omega) (by omega) hf hg hn hpt
  have hcu := body_2 hQ.1 hd hg hn (by omega) (by omega) j2
  have hcu2 := hcu
  obtain ⟨at2, pc2, sc2, x1, x2, x3, x4, x5, x6⟩ := hcu2
  have e14 : c1.1 14 = Int32.ofNat (tr + 1) := x1.1.2.2.2.2.2.2.2.1
  have hcls : sp_Rd_readTrapped g nm c = some (some a, (upd c1.1 14 (Int32.ofNat tr), c1.2)) := by
    unfold sp_Rd_readTrapped
    rw [h14, if_neg (show ¬ ((13 : Int32) ≤ Int32.ofNat tr) from fun e => by have := (le_N (a := 13) (by decide) (by omega)).mp e; omega), if_pos (gi_of (by omega : tr < 13) (by decide)), cl_of (by omega), ofN_s]
    have j2' : sp_Rd_readBody g (upd c.1 14 (Int32.ofNat (tr + 1)), gm_up c.2.1 4 (upd (c.2.1 4) tr nm), c.2.2.1, c.2.2.2.1, c.2.2.2.2.1, c.2.2.2.2.2) = some (some a, c1) := j2
    rw [j2']
    simp only
    rw [e14, sb2 (by omega), Nat.add_sub_cancel]
  have hrw : rW σ σ' := by
    obtain ⟨w1, w2⟩ := j3
    refine ⟨fun j b1 b2 b3 b4 b5 b6 b7 => (w1 j b1 b2 b3 b4 b5 b6 b7).trans (upd_ne b4), fun j b1 b2 b3 b4 b5 b6 => (w2 j b1 b2 b3 b4 b5 b6).trans (if_neg b3)⟩
  refine ⟨r, σ', a, _, j1, hcls, hrw, ⟨at2, pc2, sc2, CV_14 h14 (by omega) x1, x2, x3, x4, x5, x6⟩, ?_⟩
  rcases j4 with ⟨hr, at3, pc3, sc3, pt3, pn, y1, y2, y3, y4, y5, y6, y7, y8⟩ | ⟨hr, hfb⟩
  · refine Or.inl ⟨hr, y1.2.2.2.2.2.2.2.1, at3, pc3, sc3, pt3, pn, QR_14b (by omega) y1, CV_14 h14 (by omega) y2, ?_, y4, y5, y6, y7, y8⟩
    obtain ⟨w1, w2, w3, w4, w5, w6⟩ := y3
    refine ⟨⟨fun j b1 b2 b3 b4 b5 b6 b7 => ?_, hrw.2⟩, w2, w3, w4, fun j q a b d => (w5 j q a b d).trans (by show gm_up σ.2 33 (upd (σ.2 33) tr nm) j q = _; unfold gm_up; rw [if_neg (by omega)]), fun i hi => ?_⟩
    · show upd σ'.1 32 _ j = _
      rw [upd_ne b4]
      exact hrw.1 j b1 b2 b3 b4 b5 b6 b7
    · show σ'.2 33 i = _
      rw [w6 i (by omega)]
      show upd (σ.2 33) tr nm i = _
      rw [upd_ne (by omega)]
  · exact Or.inr ⟨hr, hfb⟩
theorem up_in (h : QR sz at_ dp lc tr pr pc sc pt σ c) : (q_in (sv sz at_ σ) 65 90 = 0 ∧ q_in (pk sz at_ c) 65 90 = 0) ∨ (at_ < sz ∧ ∃ ch, 65 ≤ ch ∧ ch ≤ 90 ∧ sv sz at_ σ = Int32.ofNat ch ∧ pk sz at_ c = Int32.ofNat ch ∧ ¬ q_in (Int32.ofNat ch) 65 90 = 0) := by
  rcases sv_pk h with ⟨hl, ch, c1, c2, c3, c4⟩ | ⟨_, c1, c2⟩
  · rw [c3, c4]
    by_cases hin : q_in (Int32.ofNat ch) 65 90 = 0
    · exact Or.inl ⟨hin, hin⟩
    · refine Or.inr ⟨hl, ch, ?_, ?_, rfl, rfl, hin⟩
      · refine Classical.byContradiction fun e => hin ?_
        unfold q_in
        rw [if_pos (show Int32.ofNat ch < (65 : Int32) from (lt_N (b := 65) (by omega) (by decide)).mpr (by omega))]
      · refine Classical.byContradiction fun e => hin ?_
        unfold q_in
        by_cases e1 : Int32.ofNat ch < (65 : Int32)
        · rw [if_pos e1]
        · rw [if_neg e1, if_pos (show (90 : Int32) < Int32.ofNat ch from (lt_N (a := 90) (by decide) (by omega)).mpr (by omega))]
  · rw [c1, c2]
    exact Or.inl ⟨by decide, by decide⟩
end J16
