section B3
variable {sz at_ dp lc tr pc sc : Nat} {c : ck_S}
theorem init1 {a a1 : Nat} {kd v k1 v1 w1 o1 : Int32} {f1 : Option Nat} (ha : c.2.2.2.1 a = some nD) (h1 : c.2.2.2.1 a1 = some (nC k1 v1 f1 w1 o1 none)) (hne : a1 ≠ a) : sp_Node_init a kd v (some a1) c = some (cE c a (nC kd v (some a1) (if kd = 1 then v else 0 ||| w1) (cA kd v [(a1, w1, o1)]) none)) :=
  nd_init (E := c.2.2.2.1) rfl (l := [(a1, w1, o1)]) ha ⟨rfl, nC_3 h1, nC_4 h1, none, nC_5 h1, rfl⟩ (by simp) (fun x hx => by rw [List.mem_singleton.mp hx]; exact hne)
theorem init2 {a a1 a2 : Nat} {kd v k1 v1 w1 o1 k2 v2 w2 o2 : Int32} {f1 f2 : Option Nat} (ha : c.2.2.2.1 a = some nD) (h1 : c.2.2.2.1 a1 = some (nC k1 v1 f1 w1 o1 (some a2))) (h2 : c.2.2.2.1 a2 = some (nC k2 v2 f2 w2 o2 none)) (hne : a1 ≠ a) (hne2 : a2 ≠ a) : sp_Node_init a kd v (some a1) c = some (cE c a (nC kd v (some a1) (if kd = 1 then v else 0 ||| w1 ||| w2) (cA kd v [(a1, w1, o1), (a2, w2, o2)]) none)) :=
  nd_init (E := c.2.2.2.1) rfl (l := [(a1, w1, o1), (a2, w2, o2)]) ha ⟨rfl, nC_3 h1, nC_4 h1, some a2, nC_5 h1, rfl, nC_3 h2, nC_4 h2, none, nC_5 h2, rfl⟩ (by simp) (fun x hx => by
    rcases List.mem_cons.mp hx with e | e
    · rw [e]; exact hne
    · rw [List.mem_singleton.mp e]; exact hne2)
theorem chain_eq {a1 : Nat} {a2 : Option Nat} {k1 v1 w1 o1 : Int32} {f1 nx : Option Nat} (h1 : c.2.2.2.1 a1 = some (nC k1 v1 f1 w1 o1 nx)) : sp_Rd_chain (some a1) a2 c = some (some a1, cE c a1 (nC k1 v1 f1 w1 o1 a2)) := ch_eq (E := c.2.2.2.1) rfl h1
def cZ (pc start : Nat) (c : ck_S) : ck_S := if pc < 30 then (upd c.1 16 (Int32.ofNat (pc + 1)), gm_up c.2.1 5 (upd (c.2.1 5) pc (Int32.ofNat start)), c.2.2) else cN 4 start (upd c.1 16 (Int32.ofNat (pc + 1)), c.2)
def pV (pc : Nat) : Int32 := if pc < 30 then (1 : Int32) <<< (Int32.ofNat pc &&& 31) else 0
theorem cZ_h {start : Nat} : (cZ pc start c).2.2 = c.2.2 := by
  unfold cZ
  by_cases h : pc < 30
  · rw [if_pos h]
  · rw [if_neg h]; rfl
theorem pause_eq {start : Nat} (h : CW sz at_ dp lc tr pc sc c) : sp_Rd_newPause (Int32.ofNat start) c = some (some c.2.2.2.2.1, cM (cZ pc start c) (nC 1 (pV pc) none (pV pc) 2 none)) := by
  have h16 : c.1 16 = Int32.ofNat pc := h.2.2.2.2.2.2.2.2.2.2.2.1
  have hpc : pc ≤ at_ := h.2.2.2.2.2.2.2.2.2.2.2.2.1
  have hat : at_ ≤ sz := h.2.2.2.1
  have hsz : sz ≤ 500 := h.2.1
  unfold sp_Rd_newPause pV cZ
  rw [h16]
  by_cases hp : pc < 30
  · rw [if_pos (show Int32.ofNat pc < 30 from (lt_N (b := 30) (by omega) (by decide)).mpr hp), if_pos (gi_of hp (by decide)), cl_of (by omega), ofN_s, if_pos hp, if_pos hp]
    have := leaf_eq (c := (upd c.1 16 (Int32.ofNat (pc + 1)), gm_up c.2.1 5 (upd (c.2.1 5) pc (Int32.ofNat start)), c.2.2)) (kd := 1) (v := (1 : Int32) <<< (Int32.ofNat pc &&& 31))
    unfold cM nD at this
    simp only at this
    rw [this]
    rfl
  · rw [if_neg (show ¬ (Int32.ofNat pc < 30) from fun e => hp ((lt_N (b := 30) (by omega) (by decide)).mp e)), ofN_s, if_neg hp, if_neg hp]
    have e4 : sp_Rd_note 4 (Int32.ofNat start) (upd c.1 16 (Int32.ofNat (pc + 1)), c.2.1, c.2.2.1, c.2.2.2.1, c.2.2.2.2.1, c.2.2.2.2.2) = some (cN 4 start (upd c.1 16 (Int32.ofNat (pc + 1)), c.2)) := nt_eq (k := 4) (by decide)
    rw [e4]
    simp only
    have := leaf_eq (c := cN 4 start (upd c.1 16 (Int32.ofNat (pc + 1)), c.2)) (kd := 1) (v := 0)
    unfold cM nD at this
    rw [this]
    rfl
theorem CW_Z {start : Nat} (h : CW sz at_ dp lc tr pc sc c) (hp : pc + 1 ≤ at_) (hs : start ≤ 500) : CV sz at_ dp lc tr pc sc c (cZ pc start c) at_ (pc + 1) sc := by
  have h' := h
  obtain ⟨h1, h2, h3, h4, h5, h6, h7, h8, h9, h10, h11, h12, h13, h14, h15⟩ := h
  have hc1 : CW sz at_ dp lc tr (pc + 1) sc (upd c.1 16 (Int32.ofNat (pc + 1)), c.2) := ⟨h1, h2, h3, h4, h5, h6, h7, h8, h9, h10, h11, rfl, hp, h14, h15⟩
  unfold cZ
  by_cases h30 : pc < 30
  · rw [if_pos h30]
    refine ⟨⟨h1, h2, h3, h4, h5, h6, h7, h8, h9, h10, h11, rfl, hp, h14, h15⟩, Nat.le_refl _, by omega, Nat.le_refl _, ⟨fun j _ _ hj => upd_ne hj, rfl, rfl, fun _ _ => rfl, fun _ _ _ => rfl, fun i hi => ?_, fun _ => rfl, fun _ _ _ h => h⟩, ⟨Nat.le_refl _, fun _ _ => rfl, ?_⟩, fun _ => rfl⟩
    · show upd (c.2.1 5) pc (Int32.ofNat start) i = _
      rw [upd_ne (by omega)]
    · show c.2.2.2.2.2 = _ + 6 * (c.2.2.2.2.1 - c.2.2.2.2.1)
      omega
  · rw [if_neg h30]
    obtain ⟨n1, n2, n3⟩ := CW_N (k := 4) (w := start) (by decide) (by decide) hs hc1
    have hF := CF_N (k := 4) (w := start) (by decide) (by decide) hs hc1
    refine ⟨n1, Nat.le_refl _, by omega, Nat.le_refl _, ?_, ⟨Nat.le_refl _, fun _ _ => rfl, ?_⟩, fun _ => rfl⟩
    · obtain ⟨f1, f2, f3, f4, f5, f6, f7, f8⟩ := hF
      refine ⟨fun j a b d => (f1 j a b d).trans (upd_ne d), f2, f3, f4, f5, fun i hi => f6 i (by omega), f7, f8⟩
    · show c.2.2.2.2.2 = _ + 6 * (c.2.2.2.2.1 - c.2.2.2.2.1)
      omega
theorem told_eq (h : CW sz at_ dp lc tr pc sc c) : ∃ s c1 at', sp_Rd_readToldSignal c = some (s, c1) ∧ CV sz at_ dp lc tr pc sc c c1 at' pc sc ∧ at' ≤ at_ + 1 ∧ c1.2.2.2.2 = c.2.2.2.2 ∧ c1.2.2.2.1 = c.2.2.2.1 := by
  have hsz : sz ≤ 500 := h.2.1
  have hat : at_ ≤ sz := h.2.2.2.1
  have h8 : c.1 8 = Int32.ofNat at_ := h.2.2.1
  unfold sp_Rd_readToldSignal
  rw [tb_eq h]
  have e2 : ∀ c', sp_Rd_note 2 (c.1 8) c' = some (cN 2 at_ c') := fun c' => by
    rw [h8]
    exact nt_eq (k := 2) (by decide)
  by_cases hin : q_in (pk sz at_ c) 97 122 = 0
  · rw [if_pos hin]
    simp only
    have hr := CW_R h
    have hz : ((0 : Int32) &&& (cR c).1 12) = 0 := by
      apply bt_az.mpr
      intro i hi
      rw [bt_0] at hi
      cases hi
    rw [if_pos trivial, if_pos hz, e2]
    simp only
    have hh : (cR c).2.2 = c.2.2 := by
      unfold cR
      by_cases hb : c.2.1 2 1 = 501
      · rw [if_pos hb]
      · rw [if_neg hb]
    refine ⟨0, cN 2 at_ (cR c), at_, rfl, CV_tr (CV_R h) (CV_N (by decide) (by decide) (by omega) hr.1), by omega, ?_, ?_⟩
    · show (cR c).2.2.2.2 = _
      rw [hh]
    · show (cR c).2.2.2.1 = _
      rw [hh]
  · rw [if_neg hin]
    simp only
    rcases pk_r h with hm | ⟨hb, hl, _, ch, c1, c2, c3⟩
    · exfalso
      apply hin
      rw [hm]
      decide
    · have hlt : 97 ≤ ch ∧ ch ≤ 122 := by
        unfold q_in at hin
        rw [c3] at hin
        constructor
        · apply Nat.le_of_not_lt
          intro e
          rw [if_pos (show Int32.ofNat ch < 97 from (lt_N (b := 97) (by omega) (by decide)).mpr e)] at hin
          exact hin rfl
        · apply Nat.le_of_not_lt
          intro e
          apply hin
          by_cases e2 : Int32.ofNat ch < 97
          · rw [if_pos e2]
          · rw [if_neg e2, if_pos (show (122 : Int32) < Int32.ofNat ch from (lt_N (a := 122) (by decide) (by omega)).mpr e)]
      have hne : ¬ (Int32.ofNat ch = -1) := fun e => by
        have h1 : (Int32.ofNat ch).toInt = ch := Int32.toInt_ofNat_of_lt (by omega)
        rw [e, show (-1 : Int32).toInt = -1 from rfl] at h1
        omega
      have hsub : Int32.ofNat ch - 97 = Int32.ofNat (ch - 97) := by
        have : ∀ q : Fin 127, 97 ≤ q.1 → Int32.ofNat q.1 - 97 = Int32.ofNat (q.1 - 97) := by decide
        exact this ⟨ch, by omega⟩ hlt.1
      rw [c3, if_neg hne, hsub, if_pos (gi_of (by omega : ch - 97 < 26) (by decide)), cl_of (by omega)]
      have hP := CV_P h hl hb
      by_cases hz : (cP c).2.1 3 (ch - 97) &&& (cP c).1 12 = 0
      · rw [if_pos hz, e2]
        simp only
        exact ⟨_, cN 2 at_ (cP c), at_ + 1, rfl, CV_tr hP (CV_N (by decide) (by decide) (by omega) hP.1), by omega, rfl, rfl⟩
      · rw [if_neg hz]
        exact ⟨_, cP c, at_ + 1, rfl, hP, by omega, rfl, rfl⟩
theorem emitd_eq (h : CW sz at_ dp lc tr pc sc c) : ∃ s c1 at', sp_Rd_readEmittedSignal c = some (s, c1) ∧ CV sz at_ dp lc tr pc sc c c1 at' pc sc ∧ at' ≤ at_ + 1 ∧ c1.2.2.2.2 = c.2.2.2.2 ∧ c1.2.2.2.1 = c.2.2.2.1 := by
  have hsz : sz ≤ 500 := h.2.1
  have hat : at_ ≤ sz := h.2.2.2.1
  have h8 : c.1 8 = Int32.ofNat at_ := h.2.2.1
  obtain ⟨s, c1, at', a1, a2, a3, a4, a5⟩ := told_eq h
  unfold sp_Rd_readEmittedSignal
  rw [a1]
  simp only
  by_cases hz : s &&& c1.1 11 = 0
  · rw [if_pos hz]
    exact ⟨s, c1, at', rfl, a2, a3, a4, a5⟩
  · rw [if_neg hz, h8]
    have e2 : sp_Rd_note 2 (Int32.ofNat at_) c1 = some (cN 2 at_ c1) := nt_eq (k := 2) (by decide)
    rw [e2]
    simp only
    exact ⟨s, cN 2 at_ c1, at', rfl, CV_tr a2 (CV_N (by decide) (by decide) (by omega) a2.1), a3, a4, a5⟩
end B3
