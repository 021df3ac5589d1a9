theorem z_or {x : Int32} : (0 : Int32) ||| x = x := by
  apply bt_ext
  intro i _
  rw [bt_or, bt_0, Bool.false_or]
def wE (E : ck_E) (m : Nat) (pv v1 : Int32) : ck_E := fun q => if q = m then some (nC 1 pv none pv 2 (some (m + 1))) else if q = m + 1 then some (nC 3 v1 (some (m + 2)) 0 5 none) else if q = m + 2 then some (nC 7 2 none 0 4 (some (m + 3))) else if q = m + 3 then some (nC 0 0 none 0 1 none) else if q = m + 4 then some (nC 4 0 (some (m + 5)) pv 2 none) else if q = m + 5 then some (nC 9 0 (some m) pv 2 none) else E q
section B6
variable {sz at_ dp lc tr pc sc : Nat} {c : ck_S}
theorem watch_eq {v1 : Int32} {start : Nat} (h : CW sz at_ dp lc tr pc sc c) : sp_Rd_newWatch v1 (Int32.ofNat start) c = some (some (c.2.2.2.2.1 + 4), ((cZ pc start c).1, (cZ pc start c).2.1, c.2.2.1, wE c.2.2.2.1 c.2.2.2.2.1 (pV pc) v1, c.2.2.2.2.1 + 6, c.2.2.2.2.2 + 36)) := by
  have hz : (cZ pc start c).2.2 = c.2.2 := cZ_h
  generalize hm : c.2.2.2.2.1 = m
  generalize hs : c.2.2.2.2.2 = s
  generalize hEE : c.2.2.2.1 = E0
  generalize hk : c.2.2.1 = κ
  have hz' : (cZ pc start c).2.2 = (κ, E0, m, s) := by rw [hz, ← hk, ← hEE, ← hm, ← hs]
  generalize hr : (cZ pc start c).1 = r
  generalize ha : (cZ pc start c).2.1 = al
  have hcz : cZ pc start c = (r, al, κ, E0, m, s) := by
    rw [← hr, ← ha, ← hz']
  have e1 : sp_Rd_newPause (Int32.ofNat start) c = some (some m, (r, al, κ, eset E0 m (nC 1 (pV pc) none (pV pc) 2 none), m + 1, s + 6)) := by
    rw [pause_eq h, hm, hcz]
    rfl
  unfold sp_Rd_newWatch
  rw [e1]
  simp only
  have e2 : sp_Rd_newExit 2 (r, al, κ, eset (eset E0 m (nC 1 (pV pc) none (pV pc) 2 none)) (m + 1) nD, m + 1 + 1, s + 6 + 6) = some (some (m + 1 + 1), (r, al, κ, eset (eset (eset E0 m (nC 1 (pV pc) none (pV pc) 2 none)) (m + 1) nD) (m + 1 + 1) (nC 7 2 none 0 4 none), m + 1 + 1 + 1, s + 6 + 6 + 6)) := exit_eq
  have e2' : sp_Rd_newExit 2 (r, al, κ, eset (eset E0 m (nC 1 (pV pc) none (pV pc) 2 none)) (m + 1) (Sum.inr (2, gx_def gx_kd2)), m + 1 + 1, s + 6 + 6) = _ := e2
  rw [e2']
  simp only
  have e3 : sp_Rd_nothing (r, al, κ, eset (eset (eset E0 m (nC 1 (pV pc) none (pV pc) 2 none)) (m + 1) nD) (m + 1 + 1) (nC 7 2 none 0 4 none), m + 1 + 1 + 1, s + 6 + 6 + 6) = some (some (m + 1 + 1 + 1), (r, al, κ, eset (eset (eset (eset E0 m (nC 1 (pV pc) none (pV pc) 2 none)) (m + 1) nD) (m + 1 + 1) (nC 7 2 none 0 4 none)) (m + 1 + 1 + 1) (nC 0 0 none 0 1 none), m + 1 + 1 + 1 + 1, s + 6 + 6 + 6 + 6)) := nothing_eq
  rw [e3]
  simp only
  generalize hE1 : eset (eset (eset (eset E0 m (nC 1 (pV pc) none (pV pc) 2 none)) (m + 1) nD) (m + 1 + 1) (nC 7 2 none 0 4 none)) (m + 1 + 1 + 1) (nC 0 0 none 0 1 none) = E1
  have f2 : E1 (m + 1 + 1) = some (nC 7 2 none 0 4 none) := by
    rw [← hE1, eset_ne (by omega), eset_eq]
  rw [chain_eq (c := (r, al, κ, E1, m + 1 + 1 + 1 + 1, s + 6 + 6 + 6 + 6)) (a2 := some (m + 1 + 1 + 1)) f2]
  simp only
  have g1 : (cE (r, al, κ, E1, m + 1 + 1 + 1 + 1, s + 6 + 6 + 6 + 6) (m + 1 + 1) (nC 7 2 none 0 4 (some (m + 1 + 1 + 1)))).2.2.2.1 (m + 1) = some nD := by
    show eset E1 (m + 1 + 1) _ (m + 1) = _
    rw [eset_ne (by omega), ← hE1, eset_ne (by omega), eset_ne (by omega), eset_eq]
  have g2 : (cE (r, al, κ, E1, m + 1 + 1 + 1 + 1, s + 6 + 6 + 6 + 6) (m + 1 + 1) (nC 7 2 none 0 4 (some (m + 1 + 1 + 1)))).2.2.2.1 (m + 1 + 1) = some (nC 7 2 none 0 4 (some (m + 1 + 1 + 1))) := eset_eq
  have g3 : (cE (r, al, κ, E1, m + 1 + 1 + 1 + 1, s + 6 + 6 + 6 + 6) (m + 1 + 1) (nC 7 2 none 0 4 (some (m + 1 + 1 + 1)))).2.2.2.1 (m + 1 + 1 + 1) = some (nC 0 0 none 0 1 none) := by
    show eset E1 (m + 1 + 1) _ (m + 1 + 1 + 1) = _
    rw [eset_ne (by omega), ← hE1, eset_eq]
  rw [init2 (kd := 3) (v := v1) g1 g2 g3 (by omega) (by omega)]
  simp only
  have hca : cA 3 v1 [(m + 1 + 1, 0, 4), (m + 1 + 1 + 1, 0, 1)] = 5 := by
    unfold cA
    simp only
    rw [if_neg (by decide), if_neg (by decide), if_neg (by decide), if_neg (by decide)]
    show sC 3 4 1 = 5
    decide
  have hw0 : (if (3 : Int32) = 1 then v1 else 0 ||| 0 ||| 0) = 0 := rfl
  rw [hca, hw0]
  generalize hE2 : (cE (cE (r, al, κ, E1, m + 1 + 1 + 1 + 1, s + 6 + 6 + 6 + 6) (m + 1 + 1) (nC 7 2 none 0 4 (some (m + 1 + 1 + 1)))) (m + 1) (nC 3 v1 (some (m + 1 + 1)) 0 5 none)).2.2.2.1 = E2
  have hst : cE (cE (r, al, κ, E1, m + 1 + 1 + 1 + 1, s + 6 + 6 + 6 + 6) (m + 1 + 1) (nC 7 2 none 0 4 (some (m + 1 + 1 + 1)))) (m + 1) (nC 3 v1 (some (m + 1 + 1)) 0 5 none) = (r, al, κ, E2, m + 1 + 1 + 1 + 1, s + 6 + 6 + 6 + 6) := by
    rw [← hE2]
    rfl
  rw [hst]
  simp only
  have k0 : E2 m = some (nC 1 (pV pc) none (pV pc) 2 none) := by
    rw [← hE2]
    show eset (eset E1 (m + 1 + 1) _) (m + 1) _ m = _
    rw [eset_ne (by omega), eset_ne (by omega), ← hE1, eset_ne (by omega), eset_ne (by omega), eset_ne (by omega), eset_eq]
  have k1 : E2 (m + 1) = some (nC 3 v1 (some (m + 1 + 1)) 0 5 none) := by
    rw [← hE2]
    exact eset_eq
  have h0 : (eset (eset E2 (m + 1 + 1 + 1 + 1) nD) (m + 1 + 1 + 1 + 1 + 1) nD) m = some (nC 1 (pV pc) none (pV pc) 2 none) := by
    rw [eset_ne (by omega), eset_ne (by omega), k0]
  have e6 := chain_eq (c := (r, al, κ, eset (eset E2 (m + 1 + 1 + 1 + 1) nD) (m + 1 + 1 + 1 + 1 + 1) nD, m + 1 + 1 + 1 + 1 + 1 + 1, s + 6 + 6 + 6 + 6 + 6 + 6)) (a2 := some (m + 1)) h0
  have e6' : sp_Rd_chain (some m) (some (m + 1)) (r, al, κ, eset (eset E2 (m + 1 + 1 + 1 + 1) (Sum.inr (2, gx_def gx_kd2))) (m + 1 + 1 + 1 + 1 + 1) (Sum.inr (2, gx_def gx_kd2)), m + 1 + 1 + 1 + 1 + 1 + 1, s + 6 + 6 + 6 + 6 + 6 + 6) = _ := e6
  rw [e6']
  simp only
  generalize hE3 : (cE (r, al, κ, eset (eset E2 (m + 1 + 1 + 1 + 1) nD) (m + 1 + 1 + 1 + 1 + 1) nD, m + 1 + 1 + 1 + 1 + 1 + 1, s + 6 + 6 + 6 + 6 + 6 + 6) m (nC 1 (pV pc) none (pV pc) 2 (some (m + 1)))).2.2.2.1 = E3
  have hst3 : cE (r, al, κ, eset (eset E2 (m + 1 + 1 + 1 + 1) nD) (m + 1 + 1 + 1 + 1 + 1) nD, m + 1 + 1 + 1 + 1 + 1 + 1, s + 6 + 6 + 6 + 6 + 6 + 6) m (nC 1 (pV pc) none (pV pc) 2 (some (m + 1))) = (r, al, κ, E3, m + 1 + 1 + 1 + 1 + 1 + 1, s + 6 + 6 + 6 + 6 + 6 + 6) := by
    rw [← hE3]
    rfl
  rw [hst3]
  have l0 : E3 m = some (nC 1 (pV pc) none (pV pc) 2 (some (m + 1))) := by rw [← hE3]; exact eset_eq
  have l1 : E3 (m + 1) = some (nC 3 v1 (some (m + 1 + 1)) 0 5 none) := by
    rw [← hE3]
    show eset (eset (eset E2 _ _) _ _) m _ (m + 1) = _
    rw [eset_ne (by omega), eset_ne (by omega), eset_ne (by omega), k1]
  have l4 : E3 (m + 1 + 1 + 1 + 1) = some nD := by
    rw [← hE3]
    show eset (eset (eset E2 _ _) _ _) m _ (m + 1 + 1 + 1 + 1) = _
    rw [eset_ne (by omega), eset_ne (by omega), eset_eq]
  have l5 : E3 (m + 1 + 1 + 1 + 1 + 1) = some nD := by
    rw [← hE3]
    show eset (eset (eset E2 _ _) _ _) m _ (m + 1 + 1 + 1 + 1 + 1) = _
    rw [eset_ne (by omega), eset_eq]
  rw [init2 (c := (r, al, κ, E3, m + 1 + 1 + 1 + 1 + 1 + 1, s + 6 + 6 + 6 + 6 + 6 + 6)) (kd := 9) (v := 0) l5 l0 l1 (by omega) (by omega)]
  simp only
  have hcb : cA 9 0 [(m, pV pc, 2), (m + 1, 0, 5)] = 2 := by
    unfold cA
    simp only
    rw [if_neg (by decide), if_neg (by decide), if_neg (by decide), if_neg (by decide)]
    show sC 9 2 5 = 2
    decide
  have hwb : (if (9 : Int32) = 1 then 0 else 0 ||| pV pc ||| 0) = pV pc := by
    rw [if_neg (by decide), or_0, z_or]
  rw [hcb, hwb]
  have l4' : (cE (r, al, κ, E3, m + 1 + 1 + 1 + 1 + 1 + 1, s + 6 + 6 + 6 + 6 + 6 + 6) (m + 1 + 1 + 1 + 1 + 1) (nC 9 0 (some m) (pV pc) 2 none)).2.2.2.1 (m + 1 + 1 + 1 + 1) = some nD := by
    show eset E3 _ _ (m + 1 + 1 + 1 + 1) = _
    rw [eset_ne (by omega), l4]
  have l5' : (cE (r, al, κ, E3, m + 1 + 1 + 1 + 1 + 1 + 1, s + 6 + 6 + 6 + 6 + 6 + 6) (m + 1 + 1 + 1 + 1 + 1) (nC 9 0 (some m) (pV pc) 2 none)).2.2.2.1 (m + 1 + 1 + 1 + 1 + 1) = some (nC 9 0 (some m) (pV pc) 2 none) := eset_eq
  rw [init1 (kd := 4) (v := 0) l4' l5' (by omega)]
  simp only
  have hcc : cA 4 0 [(m + 1 + 1 + 1 + 1 + 1, pV pc, 2)] = 2 := by
    unfold cA
    simp only
    rw [if_neg (by decide), if_pos (by decide)]
    decide
  have hwc : (if (4 : Int32) = 1 then 0 else 0 ||| pV pc) = pV pc := by
    rw [if_neg (by decide), z_or]
  rw [hcc, hwc]
  have hfin : (cE (cE (r, al, κ, E3, m + 1 + 1 + 1 + 1 + 1 + 1, s + 6 + 6 + 6 + 6 + 6 + 6) (m + 1 + 1 + 1 + 1 + 1) (nC 9 0 (some m) (pV pc) 2 none)) (m + 1 + 1 + 1 + 1) (nC 4 0 (some (m + 1 + 1 + 1 + 1 + 1)) (pV pc) 2 none)).2.2.2.1 = wE E0 m (pV pc) v1 := by
    show eset (eset E3 (m + 5) (nC 9 0 (some m) (pV pc) 2 none)) (m + 4) (nC 4 0 (some (m + 5)) (pV pc) 2 none) = _
    funext q
    unfold wE
    by_cases q4 : q = m + 4
    · subst q4
      rw [eset_eq, if_neg (by omega), if_neg (by omega), if_neg (by omega), if_neg (by omega), if_pos rfl]
    · rw [eset_ne q4]
      by_cases q5 : q = m + 5
      · subst q5
        rw [eset_eq, if_neg (by omega), if_neg (by omega), if_neg (by omega), if_neg (by omega), if_neg (by omega), if_pos rfl]
      · rw [eset_ne q5]
        by_cases q0 : q = m
        · subst q0
          rw [l0, if_pos rfl]
        · rw [if_neg q0]
          by_cases q1 : q = m + 1
          · subst q1
            rw [l1, if_pos rfl]
          · rw [if_neg q1]
            have hE3q : E3 q = E2 q := by
              rw [← hE3]
              show eset (eset (eset E2 (m + 4) nD) (m + 5) nD) m _ q = _
              rw [eset_ne q0, eset_ne q5, eset_ne q4]
            have hE2q : E2 q = eset E1 (m + 2) (nC 7 2 none 0 4 (some (m + 3))) q := by
              rw [← hE2]
              show eset (eset E1 (m + 2) _) (m + 1) _ q = _
              rw [eset_ne q1]
            rw [hE3q, hE2q]
            by_cases q2 : q = m + 2
            · subst q2
              rw [eset_eq, if_pos rfl]
            · rw [eset_ne q2, if_neg q2, ← hE1]
              show eset (eset (eset (eset E0 m _) (m + 1) nD) (m + 2) _) (m + 3) _ q = _
              by_cases q3 : q = m + 3
              · subst q3
                rw [eset_eq, if_pos rfl]
              · rw [eset_ne q3, if_neg q3, eset_ne q2, eset_ne q1, eset_ne q0, if_neg q4, if_neg q5]
  exact congrArg (fun E => some (some (m + 4), (r, al, κ, E, m + 6, s + 36))) hfin
end B6
