section C3
variable {sz at_ dp lc tr pc sc : Nat} {c : ck_S} {n : Nat} {f : ck_S → Option (Option Nat × ck_S)}
theorem CW_L {d : Nat} {tb : Int32} (hd : d ≤ 14) (hb : ∀ q, bt tb q = true → q < sc) (h : CW sz at_ dp lc tr pc sc c) {r : Nat → Int32} (hr : ∀ j, j ≠ 12 → j ≠ 15 → r j = c.1 j) (h12 : r 12 = tb) (h15 : r 15 = Int32.ofNat d) : CW sz at_ dp d tr pc sc (r, c.2) := by
  obtain ⟨h1, h2, h3, h4, h5, h6, h7, h8, h9, h10, h11, h12', h13, h14, s1, s2, s3, s4, s5⟩ := h
  exact ⟨by simp only; rw [hr 7 (by decide) (by decide)]; exact h1, h2, by simp only; rw [hr 8 (by decide) (by decide)]; exact h3, h4, h5, by simp only; rw [hr 13 (by decide) (by decide)]; exact h6, h7, by simp only; rw [hr 14 (by decide) (by decide)]; exact h8, h9, h15, hd, by simp only; rw [hr 16 (by decide) (by decide)]; exact h12', h13, h14, by simp only; rw [hr 10 (by decide) (by decide)]; exact s1, s2, by simp only; rw [h12]; exact hb, by simp only; rw [hr 11 (by decide) (by decide)]; exact s4, s5⟩
theorem own_cx {s : Int32} (h : CW sz at_ dp lc tr pc sc c) (hd : dp ≤ 12) (hf : BF n f) (hn : 13 - dp ≤ n) (htr : tr ≤ dp) (hlc : lc ≤ dp) (hb : ∀ q, bt s q = true → q < sc) {told0 : Int32} (ht : ∀ q, bt told0 q = true → q < sc) (h12 : c.1 12 = told0) : ∃ a c', (match sp_Rd_readBody f ((upd (upd c.1 12 ((c.1 12) ||| s)) 15 ((c.1 15) + 1)), c.2.1, c.2.2.1, c.2.2.2.1, c.2.2.2.2.1, c.2.2.2.2.2) with
  | none => none
  | some y3 => (match sp_Node_init y3.2.2.2.2.2.1 8 s y3.1 ((upd (upd y3.2.1 15 ((y3.2.1 15) - 1)) 12 told0), y3.2.2.1, y3.2.2.2.1, (eset y3.2.2.2.2.1 y3.2.2.2.2.2.1 (.inr (2, gx_def gx_kd2))), (y3.2.2.2.2.2.1 + 1), (y3.2.2.2.2.2.2 + 6)) with
    | none => none
    | some y4 => some ((some y3.2.2.2.2.2.1), y4))) = some (some a, c') ∧ CX 2 0 sz at_ dp lc tr pc sc c a c' := by
  have h15 : c.1 15 = Int32.ofNat lc := h.2.2.2.2.2.2.2.2.2.1
  have s3 := h.2.2.2.2.2.2.2.2.2.2.2.2.2.2.2.2.1
  have hw : CW sz at_ dp (lc + 1) tr pc sc (upd (upd c.1 12 ((c.1 12) ||| s)) 15 (Int32.ofNat (lc + 1)), c.2) := CW_L (tb := (c.1 12) ||| s) (by omega) (fun q hq => by
    rw [bt_or, Bool.or_eq_true] at hq
    rcases hq with e | e
    · exact s3 q e
    · exact hb q e) h (fun j a b => by rw [upd_ne b, upd_ne a]) rfl rfl
  obtain ⟨b1, c2, q1, q2⟩ := body_cu hw hd hf hn (by omega) (by omega)
  obtain ⟨at2, pc2, sc2, q3, q4, q5, q6, q7, q8⟩ := q2
  rw [h15, ofN_s]
  have q1' : sp_Rd_readBody f (upd (upd c.1 12 ((c.1 12) ||| s)) 15 (Int32.ofNat (lc + 1)), c.2.1, c.2.2.1, c.2.2.2.1, c.2.2.2.2.1, c.2.2.2.2.2) = some (some b1, c2) := q1
  rw [q1']
  simp only
  have e15 : c2.1 15 = Int32.ofNat (lc + 1) := q3.1.2.2.2.2.2.2.2.2.2.1
  rw [e15, sb2 (by omega), Nat.add_sub_cancel]
  have hX : CX 1 0 sz at_ dp lc tr pc sc c b1 (upd (upd c2.1 15 (Int32.ofNat lc)) 12 told0, c2.2) := by
    refine ⟨at2, pc2, sc2, ?_, q4, q5, q6, q7, q8⟩
    obtain ⟨b1', b2, b3, b4, b5, b6, b7⟩ := q3
    obtain ⟨a1, a2, a3, a4, a5, a6, a7, a8⟩ := b5
    refine ⟨CW_L (by omega) (fun q hq => by have := ht q hq; omega) b1' (fun j a b => by rw [upd_ne a, upd_ne b]) rfl rfl, b2, b3, b4, ⟨fun j x y z => ?_, a2, a3, a4, a5, a6, a7, a8⟩, b6, b7⟩
    show upd (upd c2.1 15 (Int32.ofNat lc)) 12 told0 j = _
    by_cases j12 : j = 12
    · subst j12
      rw [upd_eq, h12]
    · rw [upd_ne j12]
      by_cases j15 : j = 15
      · subst j15
        rw [upd_eq, h15]
      · rw [upd_ne j15, a1 j x y z]
        show upd (upd c.1 12 _) 15 _ j = _
        rw [upd_ne j15, upd_ne j12]
  obtain ⟨c', w1, w2⟩ := wrap_post (kd := 8) (v := s) hX
  have w1' : sp_Node_init c2.2.2.2.2.1 8 s (some b1) (upd (upd c2.1 15 (Int32.ofNat lc)) 12 told0, c2.2.1, c2.2.2.1, eset c2.2.2.2.1 c2.2.2.2.2.1 (Sum.inr (2, gx_def gx_kd2)), c2.2.2.2.2.1 + 1, c2.2.2.2.2.2 + 6) = some c' := w1
  rw [w1']
  exact ⟨_, _, rfl, w2⟩
theorem local_cx {start : Nat} (hs : start ≤ 500) (h : CW sz at_ dp lc tr pc sc c) (hd : dp ≤ 12) (hf : BF n f) (hn : 13 - dp ≤ n) (htr : tr ≤ dp) (hlc : lc ≤ dp) : ∃ a c', sp_Rd_readLocal f (Int32.ofNat start) c = some (some a, c') ∧ CX 2 0 sz at_ dp lc tr pc sc c a c' := by
  have h15 : c.1 15 = Int32.ofNat lc := h.2.2.2.2.2.2.2.2.2.1
  have main : ∀ c0, CV sz at_ dp lc tr pc sc c c0 at_ pc sc → c0.2.2 = c.2.2 → ∃ a c', (match sp_Rd_readNewSignal c0 with
      | none => none
      | some y2 => (match sp_Rd_readBody f ((upd (upd y2.2.1 12 ((y2.2.1 12) ||| y2.1)) 15 ((y2.2.1 15) + 1)), y2.2.2.1, y2.2.2.2.1, y2.2.2.2.2.1, y2.2.2.2.2.2.1, y2.2.2.2.2.2.2) with
        | none => none
        | some y3 => (match sp_Node_init y3.2.2.2.2.2.1 8 y2.1 y3.1 ((upd (upd y3.2.1 15 ((y3.2.1 15) - 1)) 12 (c0.1 12)), y3.2.2.1, y3.2.2.2.1, (eset y3.2.2.2.2.1 y3.2.2.2.2.2.1 (.inr (2, gx_def gx_kd2))), (y3.2.2.2.2.2.1 + 1), (y3.2.2.2.2.2.2 + 6)) with
          | none => none
          | some y4 => some ((some y3.2.2.2.2.2.1), y4)))) = some (some a, c') ∧ CX 2 0 sz at_ dp lc tr pc sc c a c' := by
    intro c0 hc0 hh
    obtain ⟨s, c1, at1, sc1, a1, a2, a3, a4, a5⟩ := newS_cv hc0.1
    have s3 := hc0.1.2.2.2.2.2.2.2.2.2.2.2.2.2.2.2.2.1
    have hsc := a2.2.2.2.1
    obtain ⟨a, c', q1, q2⟩ := own_cx (s := s) a2.1 hd hf hn htr hlc a5 (told0 := c0.1 12) (fun q hq => by have := s3 q hq; omega) (a2.2.2.2.2.1.1 12 (by decide) (by decide) (by decide))
    rw [a1]
    simp only
    rw [q1]
    have hnx : c1.2.2.2.2.1 = c.2.2.2.2.1 := by rw [a4, hh]
    exact ⟨_, _, rfl, CX_tr (CV_tr hc0 a2) (j' := 0) (k' := 0) (by have := a2.2.1; omega) (by rw [hnx]; omega) q2⟩
  unfold sp_Rd_readLocal
  rw [h15]
  by_cases h4 : Int32.ofNat lc < 4
  · rw [if_pos h4]
    exact main c (CV_rf h) rfl
  · rw [if_neg h4]
    have e4 : sp_Rd_note 4 (Int32.ofNat start) c = some (cN 4 start c) := nt_eq (k := 4) (by decide)
    rw [e4]
    simp only
    exact main _ (CV_N (by decide) (by decide) hs h) rfl
theorem wrap2_pre {a a1 a2 k j k2 j2 : Nat} {c1 c2 : ck_S} {kd v : Int32} {at1 pc1 sc1 : Nat} (hw : CW sz at_ dp lc tr pc sc c) (ha : a = c1.2.2.2.2.1) (hc1 : CV sz at_ dp lc tr pc sc c c1 at1 pc1 sc1) (hp1 : pc1 + at_ ≤ pc + at1 + j) (hh1 : c1.2.2.2.2.1 ≤ c.2.2.2.2.1 + 12 * (at1 - at_) + k) (hn1 : NN c1 a1) (h1 : c.2.2.2.2.1 ≤ a1) (h1' : a1 < c1.2.2.2.2.1) (hx : CX k2 j2 sz at1 dp lc tr pc1 sc1 (cM c1 nD) a2 c2) : ∃ c', (match sp_Rd_chain (some a1) (some a2) c2 with
      | none => none
      | some y => sp_Node_init a kd v y.1 y.2) = some c' ∧ CX (k + k2 + 1) (j + j2) sz at_ dp lc tr pc sc c a c' := by
  obtain ⟨at2, pc2, sc2, x1, x2, x3, x4, x5, x6⟩ := hx
  have e : (cM c1 nD).2.2.2.2.1 = c1.2.2.2.2.1 + 1 := rfl
  rw [e] at x3 x4
  have hcell : c2.2.2.2.1 a = some nD := by
    rw [x1.2.2.2.2.2.1.2.1 a (by rw [e, ha]; omega), ha]
    exact eset_eq
  have hn1' : NN c2 a1 := by
    obtain ⟨kk, vv, ff, ww, oo, he⟩ := hn1
    refine ⟨kk, vv, ff, ww, oo, ?_⟩
    rw [x1.2.2.2.2.2.1.2.1 a1 (by rw [e]; omega)]
    show eset _ _ _ a1 = _
    rw [eset_ne (by omega), he]
  obtain ⟨c', w1, z1, z2, w2, w, o, w3⟩ := wrap_two (kd := kd) (v := v) hcell hn1' x6 (by omega) (by omega) (by omega)
  have hle := hc1.2.2.2.2.2.1.1
  have := hc1.2.1
  have := x1.2.1
  refine ⟨c', w1, at2, pc2, sc2, ?_, by omega, ?_, by omega, ?_, ?_⟩
  · rw [w2]
    exact CV_E (CV_E (CV_tr hc1 (CV_tr (CV_M hc1.1) x1)) h1) (by omega)
  · rw [w2]
    show c2.2.2.2.2.1 ≤ _
    omega
  · rw [w2]
    show a < c2.2.2.2.2.1
    omega
  · rw [w2]
    exact ⟨kd, v, some a1, w, o, by rw [← w3]; exact eset_eq⟩
end C3
