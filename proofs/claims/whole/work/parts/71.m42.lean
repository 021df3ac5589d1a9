def sE (E : ck_E) (m : Nat) (pv v1 : Int32) : ck_E := fun q => if q = m then some (nC 9 0 (some (m + 1)) pv 2 none) else if q = m + 1 then some (nC 2 v1 none 0 1 (some (m + 2))) else if q = m + 2 then some (nC 1 pv none pv 2 none) else if q = m + 3 then some (nC 4 0 (some m) pv 2 none) else E q
section B7
variable {sz at_ dp lc tr pc sc : Nat} {c : ck_S}
theorem sustain_eq {v1 : Int32} {start : Nat} (h : CW sz at_ dp lc tr pc sc c) : sp_Rd_newSustain v1 (Int32.ofNat start) c = some (some (c.2.2.2.2.1 + 3), ((cZ pc start c).1, (cZ pc start c).2.1, c.2.2.1, sE c.2.2.2.1 c.2.2.2.2.1 (pV pc) v1, c.2.2.2.2.1 + 4, c.2.2.2.2.2 + 24)) := by
  generalize hm : c.2.2.2.2.1 = m
  generalize hs : c.2.2.2.2.2 = s
  generalize hEE : c.2.2.2.1 = E0
  generalize hk : c.2.2.1 = κ
  have hc : c = (c.1, c.2.1, κ, E0, m, s) := by rw [← hm, ← hs, ← hEE, ← hk]
  have e1 : sp_Rd_newEmit v1 (c.1, c.2.1, κ, eset E0 m nD, m + 1, s + 6) = some (some (m + 1), (c.1, c.2.1, κ, eset (eset E0 m nD) (m + 1) (nC 2 v1 none 0 1 none), m + 1 + 1, s + 6 + 6)) := emit_eq
  unfold sp_Rd_newSustain
  rw [hk, hEE, hm, hs]
  have e1' : sp_Rd_newEmit v1 (c.1, c.2.1, κ, eset E0 m (Sum.inr (2, gx_def gx_kd2)), m + 1, s + 6) = _ := e1
  rw [e1']
  simp only
  generalize hE1 : eset (eset E0 m nD) (m + 1) (nC 2 v1 none 0 1 none) = E1
  have hW : CW sz at_ dp lc tr pc sc (c.1, c.2.1, κ, E1, m + 1 + 1, s + 6 + 6) := h
  rw [pause_eq hW]
  simp only
  have hz : ∀ h', (cZ pc start (c.1, c.2.1, h')) = ((cZ pc start c).1, (cZ pc start c).2.1, h') := by
    intro h'
    unfold cZ
    by_cases h30 : pc < 30
    · rw [if_pos h30, if_pos h30]
    · rw [if_neg h30, if_neg h30]
      rfl
  rw [hz (κ, E1, m + 1 + 1, s + 6 + 6)]
  generalize (cZ pc start c).1 = r
  generalize (cZ pc start c).2.1 = al
  have g1 : (cM (r, al, κ, E1, m + 1 + 1, s + 6 + 6) (nC 1 (pV pc) none (pV pc) 2 none)).2.2.2.1 (m + 1) = some (nC 2 v1 none 0 1 none) := by
    show eset E1 (m + 1 + 1) _ (m + 1) = _
    rw [eset_ne (by omega), ← hE1, eset_eq]
  rw [chain_eq (a2 := some (m + 1 + 1)) g1]
  simp only
  generalize hE2 : (cE (cM (r, al, κ, E1, m + 1 + 1, s + 6 + 6) (nC 1 (pV pc) none (pV pc) 2 none)) (m + 1) (nC 2 v1 none 0 1 (some (m + 1 + 1)))).2.2.2.1 = E2
  have hst : cE (cM (r, al, κ, E1, m + 1 + 1, s + 6 + 6) (nC 1 (pV pc) none (pV pc) 2 none)) (m + 1) (nC 2 v1 none 0 1 (some (m + 1 + 1))) = (r, al, κ, E2, m + 1 + 1 + 1, s + 6 + 6 + 6) := by
    rw [← hE2]
    rfl
  rw [hst]
  have k0 : E2 m = some nD := by
    rw [← hE2]
    show eset (eset E1 (m + 1 + 1) _) (m + 1) _ m = _
    rw [eset_ne (by omega), eset_ne (by omega), ← hE1, eset_ne (by omega), eset_eq]
  have k1 : E2 (m + 1) = some (nC 2 v1 none 0 1 (some (m + 1 + 1))) := by
    rw [← hE2]
    exact eset_eq
  have k2 : E2 (m + 1 + 1) = some (nC 1 (pV pc) none (pV pc) 2 none) := by
    rw [← hE2]
    show eset (eset E1 (m + 1 + 1) _) (m + 1) _ (m + 1 + 1) = _
    rw [eset_ne (by omega), eset_eq]
  rw [init2 (c := (r, al, κ, E2, m + 1 + 1 + 1, s + 6 + 6 + 6)) (kd := 9) (v := 0) k0 k1 k2 (by omega) (by omega)]
  simp only
  have hca : cA 9 0 [(m + 1, 0, 1), (m + 1 + 1, pV pc, 2)] = 2 := by
    unfold cA
    simp only
    rw [if_neg (by decide), if_neg (by decide), if_neg (by decide), if_neg (by decide)]
    show sC 9 1 2 = 2
    decide
  have hwa : (if (9 : Int32) = 1 then 0 else 0 ||| 0 ||| pV pc) = pV pc := by
    rw [if_neg (by decide)]
    show (0 : Int32) ||| pV pc = _
    rw [z_or]
  rw [hca, hwa]
  have g4 : (cE (r, al, κ, E2, m + 1 + 1 + 1, s + 6 + 6 + 6) m (nC 9 0 (some (m + 1)) (pV pc) 2 none)).2.2.2.1 = eset E2 m (nC 9 0 (some (m + 1)) (pV pc) 2 none) := rfl
  have e5 := init1 (c := (r, al, κ, eset (eset E2 m (nC 9 0 (some (m + 1)) (pV pc) 2 none)) (m + 1 + 1 + 1) nD, m + 1 + 1 + 1 + 1, s + 6 + 6 + 6 + 6)) (a := m + 1 + 1 + 1) (a1 := m) (kd := 4) (v := 0) (k1 := 9) (v1 := 0) (w1 := pV pc) (o1 := 2) (f1 := some (m + 1)) eset_eq (by
    show eset (eset E2 m _) (m + 1 + 1 + 1) nD m = _
    rw [eset_ne (by omega), eset_eq]) (by omega)
  have e5' : sp_Node_init (m + 1 + 1 + 1) 4 0 (some m) (r, al, κ, eset (eset E2 m (nC 9 0 (some (m + 1)) (pV pc) 2 none)) (m + 1 + 1 + 1) (Sum.inr (2, gx_def gx_kd2)), m + 1 + 1 + 1 + 1, s + 6 + 6 + 6 + 6) = _ := e5
  show (match sp_Node_init (m + 1 + 1 + 1) 4 0 (some m) (r, al, κ, eset (eset E2 m (nC 9 0 (some (m + 1)) (pV pc) 2 none)) (m + 1 + 1 + 1) (Sum.inr (2, gx_def gx_kd2)), m + 1 + 1 + 1 + 1, s + 6 + 6 + 6 + 6) with
    | none => none
    | some y5 => some (some (m + 1 + 1 + 1), y5)) = _
  rw [e5']
  simp only
  have hcc : cA 4 0 [(m, pV pc, 2)] = 2 := by
    unfold cA
    simp only
    rw [if_neg (by decide), if_pos (by decide)]
    decide
  have hwc : (if (4 : Int32) = 1 then 0 else 0 ||| pV pc) = pV pc := by
    rw [if_neg (by decide), z_or]
  rw [hcc, hwc]
  have hfin : eset (eset (eset E2 m (nC 9 0 (some (m + 1)) (pV pc) 2 none)) (m + 3) nD) (m + 3) (nC 4 0 (some m) (pV pc) 2 none) = sE E0 m (pV pc) v1 := by
    rw [eset2]
    funext q
    unfold sE
    by_cases q3 : q = m + 3
    · subst q3
      rw [eset_eq, if_neg (by omega), if_neg (by omega), if_neg (by omega), if_pos rfl]
    · rw [eset_ne q3]
      by_cases q0 : q = m
      · subst q0
        rw [eset_eq, if_pos rfl]
      · rw [eset_ne q0, if_neg q0]
        by_cases q1 : q = m + 1
        · subst q1
          rw [k1, if_pos rfl]
        · rw [if_neg q1]
          by_cases q2 : q = m + 2
          · subst q2
            have k2' : E2 (m + 2) = _ := k2
            rw [k2', if_pos rfl]
          · rw [if_neg q2, if_neg q3, ← hE2]
            show eset (eset E1 (m + 2) _) (m + 1) _ q = _
            rw [eset_ne q1, eset_ne q2, ← hE1, eset_ne q1, eset_ne q0]
  exact congrArg (fun E => some (some (m + 3), (r, al, κ, E, m + 4, s + 24))) hfin
def CX (k j : Nat) (sz at_ dp lc tr pc sc : Nat) (c : ck_S) (a : Nat) (c' : ck_S) : Prop := ∃ at' pc' sc', CV sz at_ dp lc tr pc sc c c' at' pc' sc' ∧ pc' + at_ ≤ pc + at' + j ∧ c'.2.2.2.2.1 ≤ c.2.2.2.2.1 + 12 * (at' - at_) + k ∧ c.2.2.2.2.1 ≤ a ∧ a < c'.2.2.2.2.1 ∧ NN c' a
theorem CU_X {a : Nat} {c' : ck_S} (h : CU sz at_ dp lc tr pc sc c a c') : CX 1 0 sz at_ dp lc tr pc sc c a c' := h
theorem X_CU {a : Nat} {c' : ck_S} (hP : CW sz at_ dp lc tr pc sc c) (hl : at_ < sz) (hb : c.2.1 2 1 = 501) (h : CX 13 1 sz (at_ + 1) dp lc tr pc sc (cP c) a c') : CU sz at_ dp lc tr pc sc c a c' := by
  obtain ⟨at', pc', sc', h1, h2, h3, h4, h5, h6⟩ := h
  have hcv := CV_P hP hl hb
  have := h1.2.1
  have e : (cP c).2.2.2.2.1 = c.2.2.2.2.1 := rfl
  rw [e] at h3 h4
  exact ⟨at', pc', sc', CV_tr hcv h1, by omega, by omega, h4, h5, h6⟩
theorem CV_hp {c1 : ck_S} {at' pc' sc' k : Nat} {E' : ck_E} (h : CV sz at_ dp lc tr pc sc c c1 at' pc' sc') (hE : ∀ q, q < c.2.2.2.2.1 → E' q = c1.2.2.2.1 q) : CV sz at_ dp lc tr pc sc c (c1.1, c1.2.1, c1.2.2.1, E', c1.2.2.2.2.1 + k, c1.2.2.2.2.2 + 6 * k) at' pc' sc' := by
  obtain ⟨b1, b2, b3, b4, b5, b6, b7⟩ := h
  refine ⟨b1, b2, b3, b4, b5, ⟨?_, fun q hq => (hE q hq).trans (b6.2.1 q hq), ?_⟩, b7⟩
  · have := b6.1
    show c.2.2.2.2.1 ≤ c1.2.2.2.2.1 + k
    omega
  · have := b6.1
    have := b6.2.2
    show c1.2.2.2.2.2 + 6 * k = c.2.2.2.2.2 + 6 * (c1.2.2.2.2.1 + k - c.2.2.2.2.1)
    omega
theorem wrap_pre {a1 a k j : Nat} {c1 : ck_S} {kd v : Int32} (ha : a = c.2.2.2.2.1) (h : CX k j sz at_ dp lc tr pc sc (cM c nD) a1 c1) (hw : CW sz at_ dp lc tr pc sc c) : ∃ c', sp_Node_init a kd v (some a1) c1 = some c' ∧ CX (k + 1) j sz at_ dp lc tr pc sc c a c' := by
  obtain ⟨at', pc', sc', h1, h2, h3, h4, h5, k1, v1, f1, w1, o1, h6⟩ := h
  have e : (cM c nD).2.2.2.2.1 = c.2.2.2.2.1 + 1 := rfl
  rw [e] at h3 h4
  have hcell : c1.2.2.2.1 a = some nD := by
    rw [h1.2.2.2.2.2.1.2.1 a (by rw [e, ha]; omega), ha]
    exact eset_eq
  refine ⟨_, init1 hcell h6 (by omega), at', pc', sc', ?_, h2, ?_, by omega, ?_, ?_⟩
  · exact CV_E (CV_tr (CV_M hw) h1) (by omega)
  · show c1.2.2.2.2.1 ≤ _
    omega
  · show a < c1.2.2.2.2.1
    omega
  · exact ⟨_, _, _, _, _, eset_eq⟩
theorem wrap_post {a1 k j : Nat} {c1 : ck_S} {kd v : Int32} (h : CX k j sz at_ dp lc tr pc sc c a1 c1) : ∃ c', sp_Node_init c1.2.2.2.2.1 kd v (some a1) (cM c1 nD) = some c' ∧ CX (k + 1) j sz at_ dp lc tr pc sc c c1.2.2.2.2.1 c' := by
  obtain ⟨at', pc', sc', h1, h2, h3, h4, h5, k1, v1, f1, w1, o1, h6⟩ := h
  have hcell : (cM c1 nD).2.2.2.1 c1.2.2.2.2.1 = some nD := eset_eq
  have hc1 : (cM c1 nD).2.2.2.1 a1 = some (nC k1 v1 f1 w1 o1 none) := by
    show eset _ _ _ a1 = _
    rw [eset_ne (by omega), h6]
  have hle := h1.2.2.2.2.2.1.1
  refine ⟨_, init1 hcell hc1 (by omega), at', pc', sc', ?_, h2, ?_, by omega, ?_, ?_⟩
  · exact CV_E (CV_tr h1 (CV_M h1.1)) (by omega)
  · show c1.2.2.2.2.1 + 1 ≤ _
    omega
  · show c1.2.2.2.2.1 < c1.2.2.2.2.1 + 1
    omega
  · exact ⟨_, _, _, _, _, eset_eq⟩
theorem CX_mono {k j k' j' a : Nat} {c' : ck_S} (hk : k ≤ k') (hj : j ≤ j') (h : CX k j sz at_ dp lc tr pc sc c a c') : CX k' j' sz at_ dp lc tr pc sc c a c' := by
  obtain ⟨at', pc', sc', h1, h2, h3, h4⟩ := h
  exact ⟨at', pc', sc', h1, by omega, by omega, h4⟩
theorem CX_tr {c1 c2 : ck_S} {a a1 p1 s1 k j k' j' : Nat} (h : CV sz at_ dp lc tr pc sc c c1 a1 p1 s1) (hp : p1 + at_ ≤ pc + a1 + j') (hh : c1.2.2.2.2.1 ≤ c.2.2.2.2.1 + 12 * (a1 - at_) + k') (hx : CX k j sz a1 dp lc tr p1 s1 c1 a c2) : CX (k + k') (j + j') sz at_ dp lc tr pc sc c a c2 := by
  obtain ⟨at', pc', sc', h1, h2, h3, h4, h5, h6⟩ := hx
  have := h.2.1
  have := h1.2.1
  have := h.2.2.2.2.2.1.1
  exact ⟨at', pc', sc', CV_tr h h1, by omega, by omega, by omega, h5, h6⟩
end B7
