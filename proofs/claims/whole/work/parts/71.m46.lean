theorem ch_in {b1 : Option Nat} {b2 : Option Nat} {c c' : ck_S} {a : Nat} {kd v : Int32} (h : (match sp_Rd_chain b1 b2 c with
      | none => none
      | some y => sp_Node_init a kd v y.1 y.2) = some c') : ∃ y, sp_Rd_chain b1 b2 c = some y ∧ sp_Node_init a kd v y.1 y.2 = some c' := by
  cases hx : sp_Rd_chain b1 b2 c with
  | none => rw [hx] at h; cases h
  | some y => rw [hx] at h; exact ⟨y, rfl, h⟩
section C4
variable {sz at_ dp lc tr pc sc : Nat} {c : ck_S} {n : Nat} {f : ck_S → Option (Option Nat × ck_S)}
theorem abort_cx {start : Nat} {v2 : Int32} (hs : start ≤ 500) (h : CW sz at_ dp lc tr pc sc c) (hp : pc + 1 ≤ at_) (hd : dp ≤ 12) (hf : BF n f) (hn : 13 - dp ≤ n) (htr : tr ≤ dp) (hlc : lc ≤ dp) : ∃ a c', sp_Rd_readAbort f (Int32.ofNat start) v2 c = some (some a, c') ∧ CX 12 1 sz at_ dp lc tr pc sc c a c' := by
  obtain ⟨s, c1, at1, a1, a2, a3, a4, a5⟩ := told_eq h
  obtain ⟨b1, c2, q1, q2⟩ := trapped_cx (nm := 0) a2.1 hd hf hn htr hlc
  have hnx : c1.2.2.2.2.1 = c.2.2.2.2.1 := by rw [a4]
  have hX : CX 1 0 sz at_ dp lc tr pc sc c b1 c2 := CX_tr a2 (j' := 0) (k' := 0) (by have := a2.2.1; omega) (by rw [hnx]; omega) q2
  have rest : ∀ (k ag : Nat) (cg : ck_S), CX k 0 sz at_ dp lc tr pc sc c ag cg → ∃ a c', (match sp_Rd_newExit 2 (cg.1, cg.2.1, cg.2.2.1, (eset cg.2.2.2.1 cg.2.2.2.2.1 (.inr (2, gx_def gx_kd2))), (cg.2.2.2.2.1 + 1), (cg.2.2.2.2.2 + 6)) with
      | none => none
      | some y4 => (match sp_Rd_chain (some ag) y4.1 y4.2 with
        | none => none
        | some y5 => (match sp_Node_init cg.2.2.2.2.1 9 0 y5.1 y5.2 with
          | none => none
          | some y6 => (match sp_Rd_newWatch s (Int32.ofNat start) (y6.1, y6.2.1, y6.2.2.1, (eset y6.2.2.2.1 y6.2.2.2.2.1 (.inr (2, gx_def gx_kd2))), (y6.2.2.2.2.1 + 1), (y6.2.2.2.2.2 + 6)) with
            | none => none
            | some y7 => (match sp_Rd_chain (some cg.2.2.2.2.1) y7.1 y7.2 with
              | none => none
              | some y8 => (match sp_Node_init y6.2.2.2.2.1 10 0 y8.1 y8.2 with
                | none => none
                | some y9 => (match sp_Node_init y9.2.2.2.2.1 6 0 (some y6.2.2.2.2.1) (y9.1, y9.2.1, y9.2.2.1, (eset y9.2.2.2.1 y9.2.2.2.2.1 (.inr (2, gx_def gx_kd2))), (y9.2.2.2.2.1 + 1), (y9.2.2.2.2.2 + 6)) with
                  | none => none
                  | some y10 => some ((some y9.2.2.2.2.1), y10)))))))) = some (some a, c') ∧ CX (k + 10) 1 sz at_ dp lc tr pc sc c a c' := by
    intro k ag cg hx
    obtain ⟨at2, pc2, sc2, x1, x2, x3, x4, x5, x6⟩ := hx
    have hm := CV_M (z := nD) x1.1
    have e1 : sp_Rd_newExit 2 (cg.1, cg.2.1, cg.2.2.1, (eset cg.2.2.2.1 cg.2.2.2.2.1 (.inr (2, gx_def gx_kd2))), (cg.2.2.2.2.1 + 1), (cg.2.2.2.2.2 + 6)) = some (some (cM cg nD).2.2.2.2.1, cM (cM cg nD) (nC 7 2 none 0 ((1 : Int32) <<< ((2 : Int32) &&& 31)) none)) := exit_eq (c := cM cg nD)
    have hl := leaf_cx (z := nC 7 2 none 0 ((1 : Int32) <<< ((2 : Int32) &&& 31)) none) hm.1 ⟨_, _, _, _, _, rfl⟩
    obtain ⟨cr, w1, w2⟩ := wrap2_pre (kd := 9) (v := 0) h rfl x1 (j := 0) x2 x3 x6 x4 x5 hl
    obtain ⟨y5, y51, y52⟩ := ch_in w1
    rw [e1]
    simp only
    rw [y51]
    simp only
    rw [y52]
    simp only
    obtain ⟨at3, pc3, sc3, r1, r2, r3, r4, r5, r6⟩ := w2
    have hmr := CV_M (z := nD) r1.1
    obtain ⟨bw, cw, p1, p2⟩ := watch_cx (start := start) (v1 := s) hmr.1 (by have := r1.2.1; omega) hs
    have p1' : sp_Rd_newWatch s (Int32.ofNat start) (cr.1, cr.2.1, cr.2.2.1, (eset cr.2.2.2.1 cr.2.2.2.2.1 (.inr (2, gx_def gx_kd2))), (cr.2.2.2.2.1 + 1), (cr.2.2.2.2.2 + 6)) = some (some bw, cw) := p1
    rw [p1']
    simp only
    obtain ⟨cb, u1, u2⟩ := wrap2_pre (kd := 10) (v := 0) h rfl r1 (j := 0 + 0) r2 r3 r6 r4 r5 p2
    obtain ⟨y8, y81, y82⟩ := ch_in u1
    rw [y81]
    simp only
    rw [y82]
    simp only
    obtain ⟨ct, t1, t2⟩ := wrap_post (kd := 6) (v := 0) u2
    have t1' : sp_Node_init cb.2.2.2.2.1 6 0 (some cr.2.2.2.2.1) (cb.1, cb.2.1, cb.2.2.1, (eset cb.2.2.2.1 cb.2.2.2.2.1 (.inr (2, gx_def gx_kd2))), (cb.2.2.2.2.1 + 1), (cb.2.2.2.2.2 + 6)) = some ct := t1
    rw [t1']
    exact ⟨_, _, rfl, CX_mono (by omega) (by omega) t2⟩
  unfold sp_Rd_readAbort
  rw [a1]
  simp only
  rw [q1]
  simp only
  by_cases hv : v2 = 0
  · rw [if_pos hv]
    obtain ⟨a, c', r1, r2⟩ := rest 1 b1 c2 hX
    exact ⟨a, c', r1, CX_mono (by omega) (by omega) r2⟩
  · rw [if_neg hv]
    obtain ⟨cs, w1, w2⟩ := wrap_post (kd := 5) (v := s) hX
    have w1' : sp_Node_init c2.2.2.2.2.1 5 s (some b1) (c2.1, c2.2.1, c2.2.2.1, (eset c2.2.2.2.1 c2.2.2.2.2.1 (.inr (2, gx_def gx_kd2))), (c2.2.2.2.2.1 + 1), (c2.2.2.2.2.2 + 6)) = some cs := w1
    rw [w1']
    obtain ⟨a, c', r1, r2⟩ := rest 2 _ cs w2
    exact ⟨a, c', r1, CX_mono (by omega) (by omega) r2⟩
theorem unit_cu (h : CW sz at_ dp lc tr pc sc c) (hb13 : dp = 13 → c.2.1 2 1 ≠ 501) (hf : BF n f) (hn : 13 - dp ≤ n) (htr : tr ≤ dp) (hlc : lc ≤ dp) : ∃ a c', sp_Rd_readUnit f c = some (some a, c') ∧ CU sz at_ dp lc tr pc sc c a c' := by
  have hsz : sz ≤ 500 := h.2.1
  have hat : at_ ≤ sz := h.2.2.2.1
  have h8 : c.1 8 = Int32.ofNat at_ := h.2.2.1
  have hpc : pc ≤ at_ := h.2.2.2.2.2.2.2.2.2.2.2.2.1
  have back : (upd (cP c).1 8 (c.1 8), (cP c).2) = c := by
    show (upd (upd c.1 8 (c.1 8 + 1)) 8 (c.1 8), c.2) = c
    rw [upd_upd, upd_self]
  have nou : ∃ a c', sp_Rd_readNoUnit c = some (some a, c') ∧ CU sz at_ dp lc tr pc sc c a c' := by
    unfold sp_Rd_readNoUnit
    rw [rf_eq]
    simp only
    obtain ⟨a, c', q1, q2⟩ := nothing_cx (CW_R h).1
    rw [q1]
    have hnx : (cR c).2.2.2.2.1 = c.2.2.2.2.1 := by rw [hR22]
    exact ⟨_, _, rfl, CX_tr (CV_R h) (j' := 0) (k' := 0) (by omega) (by rw [hnx]; omega) q2⟩
  unfold sp_Rd_readUnit
  rw [ta_eq h]
  simp only
  rcases pk_r h with hm | ⟨hb, hl, hpk, ch, c1, c2, c3⟩
  · have hself : ((upd c.1 8 (c.1 8)), c.2.1, c.2.2.1, c.2.2.2.1, c.2.2.2.2.1, c.2.2.2.2.2) = c := by rw [upd_self]
    rw [hm, if_pos rfl]
    rw [if_neg (by decide), if_neg (by decide), if_neg (by decide), if_neg (by decide), if_neg (by decide), if_neg (by decide), if_neg (by decide), if_neg (by decide), if_neg (by decide), if_neg (by decide), if_neg (by decide), if_neg (by decide), if_neg (by decide), hself, pkk_eq h]
    simp only
    rw [hm, if_neg (by decide)]
    obtain ⟨a, c', q1, q2⟩ := nou
    rw [q1]
    exact ⟨_, _, rfl, q2⟩
  · have hd : dp ≤ 12 := by
      have := h.2.2.2.2.2.2.1
      by_cases e : dp = 13
      · exact absurd hb (hb13 e)
      · omega
    have hne : ¬ (pk sz at_ c = -1) := by
      rw [c3]
      intro e
      have h1 : (Int32.ofNat ch).toInt = ch := Int32.toInt_ofNat_of_lt (by omega)
      rw [e, show (-1 : Int32).toInt = -1 from rfl] at h1
      omega
    rw [if_neg hne]
    have hP := (CV_P h hl hb).1
    have fin : ∀ {k j : Nat}, k ≤ 13 → j ≤ 1 → ∀ X, (∃ a c', X = some (some a, c') ∧ CX k j sz (at_ + 1) dp lc tr pc sc (cP c) a c') → ∃ a c', X = some (some a, c') ∧ CU sz at_ dp lc tr pc sc c a c' := by
      rintro k j hk hj X ⟨a, c', x1, x2⟩
      exact ⟨a, c', x1, X_CU h hl hb (CX_mono hk hj x2)⟩
    generalize hch : pk sz at_ c = v
    by_cases e33 : v = 33
    · rw [if_pos e33]
      obtain ⟨s, c4, at4, a1, a2, a3, a4, a5⟩ := emitd_eq hP
      rw [a1]
      simp only
      rw [emit_eq]
      have hnx : c4.2.2.2.2.1 = (cP c).2.2.2.2.1 := by rw [a4]
      exact ⟨_, _, rfl, X_CU h hl hb (CX_mono (by omega) (by omega) (CX_tr a2 (j' := 0) (k' := 0) (by have := a2.2.1; omega) (by rw [hnx]; omega) (leaf_cx a2.1 (z := nC 2 s none 0 1 none) ⟨_, _, _, _, _, rfl⟩)))⟩
    · rw [if_neg e33]
      by_cases e35 : v = 35
      · rw [if_pos e35]
        obtain ⟨a, c', x1, x2⟩ := fin (by omega) (by omega) _ (susp_cx hP hd hf hn htr hlc)
        rw [x1]
        exact ⟨_, _, rfl, x2⟩
      · rw [if_neg e35]
        by_cases e36 : v = 36
        · rw [if_pos e36]
          obtain ⟨a, c', x1, x2⟩ := trap_cx hP hd hf hn htr hlc
          exact ⟨a, c', x1, X_CU h hl hb (CX_mono (by omega) (by omega) x2)⟩
        · rw [if_neg e36]
          rw [h8]
          by_cases e37 : v = 37
          · rw [if_pos e37]
            obtain ⟨a, c', x1, x2⟩ := fin (by omega) (by omega) _ (abort_cx (start := at_) (by omega) hP (by omega) hd hf hn htr hlc)
            rw [x1]
            exact ⟨_, _, rfl, x2⟩
          · rw [if_neg e37]
            by_cases e38 : v = 38
            · rw [if_pos e38]
              obtain ⟨a, c', x1, x2⟩ := amp_cx (start := at_) (by omega) hP (by omega)
              exact ⟨a, c', x1, X_CU h hl hb (CX_mono (by omega) (by omega) x2)⟩
            · rw [if_neg e38]
              by_cases e42 : v = 42
              · rw [if_pos e42]
                obtain ⟨a, c', x1, x2⟩ := fin (by omega) (by omega) _ (loop_cx (start := at_) (by omega) hP hd hf hn htr hlc)
                rw [x1]
                exact ⟨_, _, rfl, x2⟩
              · rw [if_neg e42]
                by_cases e46 : v = 46
                · rw [if_pos e46]
                  obtain ⟨a, c', x1, x2⟩ := fin (by omega) (by omega) _ (exit_cx hP (by omega))
                  rw [x1]
                  exact ⟨_, _, rfl, x2⟩
                · rw [if_neg e46]
                  by_cases e48 : v = 48
                  · rw [if_pos e48]
                    obtain ⟨a, c', x1, x2⟩ := fin (by omega) (by omega) _ (nothing_cx hP)
                    rw [x1]
                    exact ⟨_, _, rfl, x2⟩
                  · rw [if_neg e48]
                    by_cases e49 : v = 49
                    · rw [if_pos e49]
                      obtain ⟨a, c', x1, x2⟩ := fin (by omega) (by omega) _ (pause_cx (start := at_) hP (by omega) (by omega))
                      rw [x1]
                      exact ⟨_, _, rfl, x2⟩
                    · rw [if_neg e49]
                      by_cases e63 : v = 63
                      · rw [if_pos e63]
                        obtain ⟨a, c', x1, x2⟩ := fin (by omega) (by omega) _ (ask_cx hP hd hf hn htr hlc)
                        rw [x1]
                        exact ⟨_, _, rfl, x2⟩
                      · rw [if_neg e63]
                        by_cases e64 : v = 64
                        · rw [if_pos e64]
                          obtain ⟨a, c', x1, x2⟩ := fin (by omega) (by omega) _ (local_cx (start := at_) (by omega) hP hd hf hn htr hlc)
                          rw [x1]
                          exact ⟨_, _, rfl, x2⟩
                        · rw [if_neg e64]
                          by_cases e94 : v = 94
                          · rw [if_pos e94]
                            obtain ⟨s, c4, at4, a1, a2, a3, a4, a5⟩ := emitd_eq hP
                            rw [a1]
                            simp only
                            obtain ⟨a, c', x1, x2⟩ := sustain_cx (start := at_) (v1 := s) a2.1 (by have := a2.2.1; omega) (by omega)
                            rw [x1]
                            have hnx : c4.2.2.2.2.1 = (cP c).2.2.2.2.1 := by rw [a4]
                            exact ⟨_, _, rfl, X_CU h hl hb (CX_mono (by omega) (by omega) (CX_tr a2 (j' := 0) (k' := 0) (by have := a2.2.1; omega) (by rw [hnx]; omega) x2))⟩
                          · rw [if_neg e94]
                            by_cases e126 : v = 126
                            · rw [if_pos e126]
                              obtain ⟨a, c', x1, x2⟩ := fin (by omega) (by omega) _ (abort_cx (start := at_) (by omega) hP (by omega) hd hf hn htr hlc)
                              rw [x1]
                              exact ⟨_, _, rfl, x2⟩
                            · rw [if_neg e126]
                              have hbk : ((upd (cP c).1 8 (Int32.ofNat at_)), (cP c).2.1, (cP c).2.2.1, (cP c).2.2.2.1, (cP c).2.2.2.2.1, (cP c).2.2.2.2.2) = c := by
                                rw [← h8]
                                exact back
                              rw [hbk, pkk_eq h]
                              simp only
                              rw [hch]
                              by_cases e40 : v = 40
                              · rw [if_pos e40]
                                obtain ⟨a, c', x1, x2⟩ := body_cu h hd hf hn (by omega) (by omega)
                                rw [x1]
                                exact ⟨_, _, rfl, x2⟩
                              · rw [if_neg e40]
                                obtain ⟨a, c', q1, q2⟩ := nou
                                rw [q1]
                                exact ⟨_, _, rfl, q2⟩
end C4
