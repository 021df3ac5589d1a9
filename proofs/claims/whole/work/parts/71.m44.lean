section B9
variable {sz at_ dp lc tr pc sc : Nat} {c : ck_S} {n : Nat} {f : ck_S → Option (Option Nat × ck_S)}
theorem wrap_two {a a1 a2 : Nat} {kd v : Int32} (ha : c.2.2.2.1 a = some nD) (h1 : NN c a1) (h2 : NN c a2) (n1 : a1 ≠ a) (n2 : a2 ≠ a) (n3 : a1 ≠ a2) : ∃ c', (match sp_Rd_chain (some a1) (some a2) c with
      | none => none
      | some y4 => sp_Node_init a kd v y4.1 y4.2) = some c' ∧ ∃ z1 z2, c' = cE (cE c a1 z1) a z2 ∧ ∃ w o, z2 = nC kd v (some a1) w o none := by
  obtain ⟨k1, v1, f1, w1, o1, e1⟩ := h1
  obtain ⟨k2, v2, f2, w2, o2, e2⟩ := h2
  rw [chain_eq (a2 := some a2) e1]
  simp only
  have g0 : (cE c a1 (nC k1 v1 f1 w1 o1 (some a2))).2.2.2.1 a = some nD := by
    show eset _ _ _ a = _
    rw [eset_ne (fun e => n1 e.symm), ha]
  have g1 : (cE c a1 (nC k1 v1 f1 w1 o1 (some a2))).2.2.2.1 a1 = some (nC k1 v1 f1 w1 o1 (some a2)) := eset_eq
  have g2 : (cE c a1 (nC k1 v1 f1 w1 o1 (some a2))).2.2.2.1 a2 = some (nC k2 v2 f2 w2 o2 none) := by
    show eset _ _ _ a2 = _
    rw [eset_ne (fun e => n3 e.symm), e2]
  rw [init2 g0 g1 g2 n1 n2]
  exact ⟨_, rfl, _, _, rfl, _, _, rfl⟩
theorem ask_cx (h : CW sz at_ dp lc tr pc sc c) (hd : dp ≤ 12) (hf : BF n f) (hn : 13 - dp ≤ n) (htr : tr ≤ dp) (hlc : lc ≤ dp) : ∃ a c', sp_Rd_readAsk f c = some (some a, c') ∧ CX 3 0 sz at_ dp lc tr pc sc c a c' := by
  obtain ⟨s, c1, at1, a1, a2, a3, a4, a5⟩ := told_eq h
  obtain ⟨b1, c2, q1, q2⟩ := body_cu a2.1 hd hf hn (by omega) (by omega)
  obtain ⟨at2, pc2, sc2, q3, q4, q5, q6, q7, q8⟩ := q2
  obtain ⟨b2, c3, r1, r2⟩ := body_cu q3.1 hd hf hn (by omega) (by omega)
  obtain ⟨at3, pc3, sc3, r3, r4, r5, r6, r7, r8⟩ := r2
  unfold sp_Rd_readAsk
  rw [a1]
  simp only
  rw [q1]
  simp only
  rw [r1]
  simp only
  have nb1 : NN (cM c3 nD) b1 := by
    obtain ⟨k, v, f', w, o, e⟩ := q8
    refine ⟨k, v, f', w, o, ?_⟩
    show eset _ _ _ b1 = _
    rw [eset_ne (by have := r3.2.2.2.2.2.1.1; omega), r3.2.2.2.2.2.1.2.1 b1 q7, e]
  have nb2 : NN (cM c3 nD) b2 := by
    obtain ⟨k, v, f', w, o, e⟩ := r8
    refine ⟨k, v, f', w, o, ?_⟩
    show eset _ _ _ b2 = _
    rw [eset_ne (by omega), e]
  have hw := wrap_two (c := cM c3 nD) (a := c3.2.2.2.2.1) (kd := 3) (v := s) eset_eq nb1 nb2 (by have := r3.2.2.2.2.2.1.1; omega) (by omega) (by omega)
  obtain ⟨c', w1, z1, z2, w2, w, o, w3⟩ := hw
  have w1' : (match sp_Rd_chain (some b1) (some b2) (c3.1, c3.2.1, c3.2.2.1, eset c3.2.2.2.1 c3.2.2.2.2.1 (Sum.inr (2, gx_def gx_kd2)), c3.2.2.2.2.1 + 1, c3.2.2.2.2.2 + 6) with
      | none => none
      | some y4 => sp_Node_init c3.2.2.2.2.1 3 s y4.1 y4.2) = some c' := w1
  have hcnx : c1.2.2.2.2.1 = c.2.2.2.2.1 := by rw [a4]
  have hle2 := q3.2.2.2.2.2.1.1
  have hle3 := r3.2.2.2.2.2.1.1
  refine ⟨c3.2.2.2.2.1, c', ?_, at3, pc3, sc3, ?_, ?_, ?_, by omega, ?_, ?_⟩
  · cases hch : sp_Rd_chain (some b1) (some b2) (c3.1, c3.2.1, c3.2.2.1, eset c3.2.2.2.1 c3.2.2.2.2.1 (Sum.inr (2, gx_def gx_kd2)), c3.2.2.2.2.1 + 1, c3.2.2.2.2.2 + 6) with
    | none => rw [hch] at w1'; cases w1'
    | some y4 =>
      rw [hch] at w1'
      simp only at w1' ⊢
      rw [w1']
  · rw [w2]
    exact CV_E (CV_E (CV_tr a2 (CV_tr q3 (CV_tr r3 (CV_M r3.1)))) (by omega)) (by omega)
  · have := a2.2.1
    have := q3.2.1
    have := r3.2.1
    omega
  · rw [w2]
    show c3.2.2.2.2.1 + 1 ≤ _
    have := a2.2.1
    have := q3.2.1
    have := r3.2.1
    omega
  · rw [w2]
    show c3.2.2.2.2.1 < c3.2.2.2.2.1 + 1
    omega
  · rw [w2]
    exact ⟨3, s, some b1, w, o, by rw [← w3]; exact eset_eq⟩
theorem loop_cx {start : Nat} (hs : start ≤ 500) (h : CW sz at_ dp lc tr pc sc c) (hd : dp ≤ 12) (hf : BF n f) (hn : 13 - dp ≤ n) (htr : tr ≤ dp) (hlc : lc ≤ dp) : ∃ a c', sp_Rd_readLoop f (Int32.ofNat start) c = some (some a, c') ∧ CX 2 0 sz at_ dp lc tr pc sc c a c' := by
  obtain ⟨b1, c2, q1, q2⟩ := body_cu h hd hf hn (by omega) (by omega)
  have q2' := q2
  obtain ⟨at2, pc2, sc2, q3, q4, q5, q6, q7, k, v, f', w, o, e⟩ := q2
  unfold sp_Rd_readLoop
  rw [q1]
  simp only
  rw [nC_4 e]
  simp only
  by_cases ho : o &&& 1 = 0
  · rw [if_pos ho]
    obtain ⟨c', w1, w2⟩ := wrap_post (kd := 4) (v := 0) (CU_X q2')
    have w1' : sp_Node_init c2.2.2.2.2.1 4 0 (some b1) (c2.1, c2.2.1, c2.2.2.1, eset c2.2.2.2.1 c2.2.2.2.2.1 (Sum.inr (2, gx_def gx_kd2)), c2.2.2.2.2.1 + 1, c2.2.2.2.2.2 + 6) = some c' := w1
    rw [w1']
    exact ⟨_, _, rfl, w2⟩
  · rw [if_neg ho]
    have e3 : sp_Rd_note 3 (Int32.ofNat start) c2 = some (cN 3 start c2) := nt_eq (k := 3) (by decide)
    rw [e3]
    simp only
    have hcn := CV_N (k := 3) (w := start) (by decide) (by decide) hs q3.1
    have hX : CX 1 0 sz at_ dp lc tr pc sc c b1 (cN 3 start c2) := ⟨at2, pc2, sc2, CV_tr q3 hcn, q4, q5, q6, q7, k, v, f', w, o, e⟩
    obtain ⟨c', w1, w2⟩ := wrap_post (kd := 4) (v := 0) hX
    have w1' : sp_Node_init (cN 3 start c2).2.2.2.2.1 4 0 (some b1) ((cN 3 start c2).1, (cN 3 start c2).2.1, (cN 3 start c2).2.2.1, eset (cN 3 start c2).2.2.2.1 (cN 3 start c2).2.2.2.2.1 (Sum.inr (2, gx_def gx_kd2)), (cN 3 start c2).2.2.2.2.1 + 1, (cN 3 start c2).2.2.2.2.2 + 6) = some c' := w1
    rw [w1']
    exact ⟨_, _, rfl, w2⟩
theorem susp_cx (h : CW sz at_ dp lc tr pc sc c) (hd : dp ≤ 12) (hf : BF n f) (hn : 13 - dp ≤ n) (htr : tr ≤ dp) (hlc : lc ≤ dp) : ∃ a c', sp_Rd_readSuspend f c = some (some a, c') ∧ CX 2 0 sz at_ dp lc tr pc sc c a c' := by
  obtain ⟨s, c1, at1, a1, a2, a3, a4, a5⟩ := told_eq h
  have hm := CV_M (z := nD) a2.1
  obtain ⟨b1, c2, q1, q2⟩ := body_cu hm.1 hd hf hn (by omega) (by omega)
  obtain ⟨c', w1, w2⟩ := wrap_pre (kd := 5) (v := s) rfl (CU_X q2) a2.1
  unfold sp_Rd_readSuspend
  rw [a1]
  simp only
  have q1' : sp_Rd_readBody f (c1.1, c1.2.1, c1.2.2.1, eset c1.2.2.2.1 c1.2.2.2.2.1 (Sum.inr (2, gx_def gx_kd2)), c1.2.2.2.2.1 + 1, c1.2.2.2.2.2 + 6) = some (some b1, c2) := q1
  rw [q1']
  simp only
  rw [w1]
  have hcnx : c1.2.2.2.2.1 = c.2.2.2.2.1 := by rw [a4]
  exact ⟨_, _, rfl, CX_tr a2 (j' := 0) (k' := 0) (by have := a2.2.1; omega) (by rw [hcnx]; omega) w2⟩
theorem CW_14 {d : Nat} (hd : d ≤ 14) {al : Nat → Nat → Int32} (hal : ∀ j, j ≠ 4 → al j = c.2.1 j) (h : CW sz at_ dp lc tr pc sc c) : CW sz at_ dp lc d pc sc (upd c.1 14 (Int32.ofNat d), al, c.2.2) := by
  obtain ⟨h1, h2, h3, h4, h5, h6, h7, h8, h9, h10, h11, h12, h13, h14, h15⟩ := h
  have e1 := hal 1 (by decide)
  have e2 := hal 2 (by decide)
  have e3 := hal 3 (by decide)
  refine ⟨h1, h2, h3, h4, by simp only; rw [e1]; exact h5, h6, h7, rfl, hd, h10, h11, h12, h13, by simp only; rw [e2]; exact h14, ?_⟩
  unfold CS at h15 ⊢
  simp only
  rw [e3]
  exact h15
theorem trapped_cx {nm : Int32} (h : CW sz at_ dp lc tr pc sc c) (hd : dp ≤ 12) (hf : BF n f) (hn : 13 - dp ≤ n) (htr : tr ≤ dp) (hlc : lc ≤ dp) : ∃ a c', sp_Rd_readTrapped f nm c = some (some a, c') ∧ CX 1 0 sz at_ dp lc tr pc sc c a c' := by
  have h14 : c.1 14 = Int32.ofNat tr := h.2.2.2.2.2.2.2.1
  unfold sp_Rd_readTrapped
  rw [h14, if_neg (show ¬ ((13 : Int32) ≤ Int32.ofNat tr) from fun e => by have := (le_N (a := 13) (by decide) (by omega)).mp e; omega), if_pos (gi_of (by omega : tr < 13) (by decide)), cl_of (by omega), ofN_s]
  have hw := CW_14 (d := tr + 1) (by omega) (al := gm_up c.2.1 4 (upd (c.2.1 4) tr nm)) (fun j hj => if_neg hj) h
  obtain ⟨b1, c2, q1, q2⟩ := body_cu hw hd hf hn (by omega) (by omega)
  obtain ⟨at2, pc2, sc2, q3, q4, q5, q6, q7, q8⟩ := q2
  have q1' : sp_Rd_readBody f (upd c.1 14 (Int32.ofNat (tr + 1)), gm_up c.2.1 4 (upd (c.2.1 4) tr nm), c.2.2.1, c.2.2.2.1, c.2.2.2.2.1, c.2.2.2.2.2) = some (some b1, c2) := q1
  rw [q1']
  simp only
  have e14 : c2.1 14 = Int32.ofNat (tr + 1) := q3.1.2.2.2.2.2.2.2.1
  rw [e14, sb2 (by omega), Nat.add_sub_cancel]
  refine ⟨b1, (upd c2.1 14 (Int32.ofNat tr), c2.2), rfl, at2, pc2, sc2, ?_, q4, q5, q6, q7, q8⟩
  obtain ⟨b1', b2, b3, b4, b5, b6, b7⟩ := q3
  obtain ⟨a1, a2, a3, a4, a5, a6, a7, a8⟩ := b5
  refine ⟨CW_14 (by omega) (al := c2.2.1) (fun _ _ => rfl) b1', b2, b3, b4, ⟨fun j x y z => ?_, a2, a3, fun i hi => ?_, a5, a6, a7, a8⟩, b6, b7⟩
  · by_cases hj : j = 14
    · subst hj
      show upd c2.1 14 (Int32.ofNat tr) 14 = _
      rw [upd_eq, h14]
    · show upd c2.1 14 (Int32.ofNat tr) j = _
      rw [upd_ne hj, a1 j x y z]
      exact upd_ne hj
  · show c2.2.1 4 i = _
    rw [a4 i (by omega)]
    show upd (c.2.1 4) tr nm i = _
    rw [upd_ne (by omega)]
theorem trap_cx (h : CW sz at_ dp lc tr pc sc c) (hd : dp ≤ 12) (hf : BF n f) (hn : 13 - dp ≤ n) (htr : tr ≤ dp) (hlc : lc ≤ dp) : ∃ a c', (match sp_Rd_takeBetween 65 90 (c.1, c.2.1, c.2.2.1, (eset c.2.2.2.1 c.2.2.2.2.1 (.inr (2, gx_def gx_kd2))), (c.2.2.2.2.1 + 1), (c.2.2.2.2.2 + 6)) with
  | none => none
  | some y8 => (match sp_Rd_readTrapped f y8.1 y8.2 with
    | none => none
    | some y9 => (match sp_Node_init c.2.2.2.2.1 6 0 y9.1 y9.2 with
      | none => none
      | some y10 => some ((some c.2.2.2.2.1), y10)))) = some (some a, c') ∧ CX 2 0 sz at_ dp lc tr pc sc c a c' := by
  have hm := CV_M (z := nD) h
  obtain ⟨s, c1, at1, a1, a2, a3, a4⟩ := tb_cv (v1 := 65) (v2 := 90) hm.1 (by decide)
  obtain ⟨b1, c2, q1, q2⟩ := trapped_cx (nm := s) a2.1 hd hf hn htr hlc
  have hnx : c1.2.2.2.2.1 = (cM c nD).2.2.2.2.1 := by rw [a4]
  have hX : CX 1 0 sz at_ dp lc tr pc sc (cM c nD) b1 c2 := CX_tr a2 (j' := 0) (k' := 0) (by have := a2.2.1; omega) (by rw [hnx]; omega) q2
  obtain ⟨c', w1, w2⟩ := wrap_pre (kd := 6) (v := 0) rfl hX h
  have a1' : sp_Rd_takeBetween 65 90 (c.1, c.2.1, c.2.2.1, (eset c.2.2.2.1 c.2.2.2.2.1 (.inr (2, gx_def gx_kd2))), (c.2.2.2.2.1 + 1), (c.2.2.2.2.2 + 6)) = some (s, c1) := a1
  rw [a1']
  simp only
  rw [q1]
  simp only
  rw [w1]
  exact ⟨_, _, rfl, w2⟩
theorem amp_cx {start : Nat} (hs : start ≤ 500) (h : CW sz at_ dp lc tr pc sc c) (hp : pc + 1 ≤ at_) : ∃ a c', (match sp_Rd_readToldSignal (c.1, c.2.1, c.2.2.1, (eset c.2.2.2.1 c.2.2.2.2.1 (.inr (2, gx_def gx_kd2))), (c.2.2.2.2.1 + 1), (c.2.2.2.2.2 + 6)) with
  | none => none
  | some y14 => (match sp_Rd_newWatch y14.1 (Int32.ofNat start) y14.2 with
    | none => none
    | some y15 => (match sp_Node_init c.2.2.2.2.1 6 0 y15.1 y15.2 with
      | none => none
      | some y16 => some ((some c.2.2.2.2.1), y16)))) = some (some a, c') ∧ CX 7 1 sz at_ dp lc tr pc sc c a c' := by
  have hm := CV_M (z := nD) h
  obtain ⟨s, c1, at1, a1, a2, a3, a4, a5⟩ := told_eq hm.1
  obtain ⟨b1, c2, q1, q2⟩ := watch_cx (start := start) (v1 := s) a2.1 (by have := a2.2.1; omega) hs
  have hnx : c1.2.2.2.2.1 = (cM c nD).2.2.2.2.1 := by rw [a4]
  have hX : CX 6 1 sz at_ dp lc tr pc sc (cM c nD) b1 c2 := CX_tr a2 (j' := 0) (k' := 0) (by have := a2.2.1; omega) (by rw [hnx]; omega) q2
  obtain ⟨c', w1, w2⟩ := wrap_pre (kd := 6) (v := 0) rfl hX h
  have a1' : sp_Rd_readToldSignal (c.1, c.2.1, c.2.2.1, (eset c.2.2.2.1 c.2.2.2.2.1 (.inr (2, gx_def gx_kd2))), (c.2.2.2.2.1 + 1), (c.2.2.2.2.2 + 6)) = some (s, c1) := a1
  rw [a1']
  simp only
  rw [q1]
  simp only
  rw [w1]
  exact ⟨_, _, rfl, w2⟩
end B9
