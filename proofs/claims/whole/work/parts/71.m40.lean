def BF (n : Nat) (f : ck_S → Option (Option Nat × ck_S)) : Prop := ∀ sz at_ dp lc tr pc sc c, CW sz at_ dp lc tr pc sc c → (dp = 13 → c.2.1 2 1 ≠ 501) → 14 - dp ≤ n → tr ≤ dp → lc ≤ dp → ∃ a c', f c = some (some a, c') ∧ CU sz at_ dp lc tr pc sc c a c'
section B5
variable {sz at_ dp lc tr pc sc : Nat} {c : ck_S} {n : Nat} {f : ck_S → Option (Option Nat × ck_S)}
theorem CW_13 {d : Nat} (hd : d ≤ 13) (h : CW sz at_ dp lc tr pc sc c) : CW sz at_ d lc tr pc sc (upd c.1 13 (Int32.ofNat d), c.2) := by
  obtain ⟨h1, h2, h3, h4, h5, h6, h7, h8, h9, h10, h11, h12, h13, h14, h15⟩ := h
  exact ⟨h1, h2, h3, h4, h5, rfl, hd, h8, h9, h10, h11, h12, h13, h14, h15⟩
theorem CV_13 {d at' pc' sc' : Nat} {c3 : ck_S} (hc : c.1 13 = Int32.ofNat dp) (hd : dp ≤ 13) (h : CV sz at_ d lc tr pc sc (upd c.1 13 (Int32.ofNat d), c.2) c3 at' pc' sc') : CV sz at_ dp lc tr pc sc c (upd c3.1 13 (Int32.ofNat dp), c3.2) at' pc' sc' := by
  obtain ⟨b1, b2, b3, b4, b5, b6, b7⟩ := h
  obtain ⟨a1, a2, a3, a4, a5, a6, a7, a8⟩ := b5
  refine ⟨CW_13 hd b1, b2, b3, b4, ⟨fun j x y z => ?_, a2, a3, a4, a5, a6, a7, a8⟩, b6, b7⟩
  by_cases hj : j = 13
  · subst hj
    show upd c3.1 13 (Int32.ofNat dp) 13 = _
    rw [upd_eq, hc]
  · show upd c3.1 13 (Int32.ofNat dp) j = _
    rw [upd_ne hj, a1 j x y z]
    exact upd_ne hj
theorem body_cu (h : CW sz at_ dp lc tr pc sc c) (hd : dp ≤ 12) (hf : BF n f) (hn : 13 - dp ≤ n) (htr : tr ≤ dp + 1) (hlc : lc ≤ dp + 1) : ∃ a c', sp_Rd_readBody f c = some (some a, c') ∧ CU sz at_ dp lc tr pc sc c a c' := by
  have h13 : c.1 13 = Int32.ofNat dp := h.2.2.2.2.2.1
  have main : ∀ c1 a1, CV sz at_ dp lc tr pc sc c c1 a1 pc sc → (dp = 12 → c1.2.1 2 1 ≠ 501) → c1.2.2 = c.2.2 → ∃ a c', (match f ((upd c1.1 13 ((c1.1 13) + 1)), c1.2.1, c1.2.2.1, c1.2.2.2.1, c1.2.2.2.2.1, c1.2.2.2.2.2) with
      | none => none
      | some y3 => (match sp_Rd_expect 41 ((upd y3.2.1 13 ((y3.2.1 13) - 1)), y3.2.2.1, y3.2.2.2.1, y3.2.2.2.2.1, y3.2.2.2.2.2.1, y3.2.2.2.2.2.2) with
        | none => none
        | some y4 => some (y3.1, y4))) = some (some a, c') ∧ CU sz at_ dp lc tr pc sc c a c' := by
    intro c1 a1 hc1 hb hh
    have e13 : c1.1 13 = Int32.ofNat dp := hc1.1.2.2.2.2.2.1
    have hw2 := CW_13 (d := dp + 1) (by omega) hc1.1
    obtain ⟨a, c3, q1, at3, pc3, sc3, q2, q3, q4, q5, q6, q7⟩ := hf sz a1 (dp + 1) lc tr pc sc _ hw2 (fun e => hb (by omega)) (by omega) htr hlc
    rw [e13, ofN_s]
    have q1' : f ((upd c1.1 13 (Int32.ofNat (dp + 1))), c1.2.1, c1.2.2.1, c1.2.2.2.1, c1.2.2.2.2.1, c1.2.2.2.2.2) = some (some a, c3) := q1
    rw [q1']
    simp only
    have e3 : c3.1 13 = Int32.ofNat (dp + 1) := q2.1.2.2.2.2.2.1
    rw [e3, sb2 (by omega), Nat.add_sub_cancel]
    have hv := CV_13 e13 (by omega) q2
    obtain ⟨at4, x1, x2, _⟩ := CV_ex (v1 := 41) (by decide) hv.1
    have e4 := ex_eq (v1 := 41) hv.1
    have e4' : sp_Rd_expect 41 ((upd c3.1 13 (Int32.ofNat dp)), c3.2.1, c3.2.2.1, c3.2.2.2.1, c3.2.2.2.2.1, c3.2.2.2.2.2) = _ := e4
    rw [e4']
    refine ⟨a, _, rfl, at4, pc3, sc3, CV_tr hc1 (CV_tr hv x1), ?_, ?_, ?_, ?_, ?_⟩
    · have := hc1.2.1
      have := x1.2.1
      omega
    · have hcell : ∀ v1, (if pk sz at3 (upd c3.1 13 (Int32.ofNat dp), c3.2) = v1 then cP (upd c3.1 13 (Int32.ofNat dp), c3.2) else cR (upd c3.1 13 (Int32.ofNat dp), c3.2)).2.2 = c3.2.2 := by
        intro v1
        by_cases e : pk sz at3 (upd c3.1 13 (Int32.ofNat dp), c3.2) = v1
        · rw [if_pos e]; rfl
        · rw [if_neg e]
          unfold cR
          by_cases hb' : (upd c3.1 13 (Int32.ofNat dp), c3.2).2.1 2 1 = 501
          · rw [if_pos hb']
          · rw [if_neg hb']
      rw [hcell 41]
      have := hc1.2.1
      have := x1.2.1
      have hh' : (upd c1.1 13 (Int32.ofNat (dp + 1)), c1.2).2.2.2.2.1 = c.2.2.2.2.1 := by show c1.2.2.2.2.1 = _; rw [hh]
      rw [hh'] at q4
      omega
    · have hh' : (upd c1.1 13 (Int32.ofNat (dp + 1)), c1.2).2.2.2.2.1 = c.2.2.2.2.1 := by show c1.2.2.2.2.1 = _; rw [hh]
      rw [hh'] at q5
      exact q5
    · have hcell : (if pk sz at3 (upd c3.1 13 (Int32.ofNat dp), c3.2) = 41 then cP (upd c3.1 13 (Int32.ofNat dp), c3.2) else cR (upd c3.1 13 (Int32.ofNat dp), c3.2)).2.2 = c3.2.2 := by
        by_cases e : pk sz at3 (upd c3.1 13 (Int32.ofNat dp), c3.2) = 41
        · rw [if_pos e]; rfl
        · rw [if_neg e]
          unfold cR
          by_cases hb' : (upd c3.1 13 (Int32.ofNat dp), c3.2).2.1 2 1 = 501
          · rw [if_pos hb']
          · rw [if_neg hb']
      rw [hcell]
      exact q6
    · have hcell : (if pk sz at3 (upd c3.1 13 (Int32.ofNat dp), c3.2) = 41 then cP (upd c3.1 13 (Int32.ofNat dp), c3.2) else cR (upd c3.1 13 (Int32.ofNat dp), c3.2)).2.2 = c3.2.2 := by
        by_cases e : pk sz at3 (upd c3.1 13 (Int32.ofNat dp), c3.2) = 41
        · rw [if_pos e]; rfl
        · rw [if_neg e]
          unfold cR
          by_cases hb' : (upd c3.1 13 (Int32.ofNat dp), c3.2).2.1 2 1 = 501
          · rw [if_pos hb']
          · rw [if_neg hb']
      obtain ⟨kd, v, f', w, o, hn⟩ := q7
      refine ⟨kd, v, f', w, o, ?_⟩
      have : ∀ z : ck_S, z.2.2 = c3.2.2 → z.2.2.2.1 = c3.2.2.2.1 := fun z hz => by rw [hz]
      rw [this _ hcell]
      exact hn
  have hRh : ∀ z : ck_S, (cR z).2.2 = z.2.2 := by
    intro z
    unfold cR
    by_cases hb' : z.2.1 2 1 = 501
    · rw [if_pos hb']
    · rw [if_neg hb']
  unfold sp_Rd_readBody
  rw [h13]
  by_cases h12 : dp < 12
  · rw [if_pos (show Int32.ofNat dp < 12 from (lt_N (b := 12) (by omega) (by decide)).mpr h12), ex_eq (v1 := 40) h]
    simp only
    obtain ⟨at4, x1, x2, _⟩ := CV_ex (v1 := 40) (by decide) h
    refine main _ at4 x1 (fun e => by omega) ?_
    by_cases e : pk sz at_ c = 40
    · rw [if_pos e]; rfl
    · rw [if_neg e]; exact hRh c
  · rw [if_neg (show ¬ (Int32.ofNat dp < 12) from fun e => h12 ((lt_N (b := 12) (by omega) (by decide)).mp e)), rf_eq]
    simp only
    have hr := CW_R h
    rw [ex_eq (v1 := 40) hr.1]
    simp only
    obtain ⟨at4, x1, x2, _⟩ := CV_ex (v1 := 40) (by decide) hr.1
    have hpk : pk sz at_ (cR c) = -1 := pk_b hr.2.1
    rw [hpk, if_neg (by decide)] at x1 ⊢
    have h501 : (cR (cR c)).2.1 2 1 ≠ 501 := (CW_R hr.1).2.1
    exact main _ at4 (CV_tr (CV_R h) x1) (fun _ => h501) (by rw [hRh, hRh])
end B5
