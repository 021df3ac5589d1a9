def CF (tr pc : Nat) (c c' : ck_S) : Prop := (∀ j, j ≠ 8 → j ≠ 10 → j ≠ 16 → c'.1 j = c.1 j) ∧ c'.2.2.1 = c.2.2.1 ∧ c'.2.1 1 = c.2.1 1 ∧ (∀ i, i < tr → c'.2.1 4 i = c.2.1 4 i) ∧ (∀ l, l < 26 → c.2.1 3 l ≠ 0 → c'.2.1 3 l = c.2.1 3 l) ∧ (∀ i, i < pc → c'.2.1 5 i = c.2.1 5 i) ∧ (c.2.1 2 1 ≠ 501 → c'.2.1 2 1 = c.2.1 2 1) ∧ (∀ k, 2 ≤ k → k ≤ 4 → c.2.1 2 k ≠ 501 → c'.2.1 2 k ≠ 501)
def CH (c c' : ck_S) : Prop := c.2.2.2.2.1 ≤ c'.2.2.2.2.1 ∧ (∀ q, q < c.2.2.2.2.1 → c'.2.2.2.1 q = c.2.2.2.1 q) ∧ c'.2.2.2.2.2 = c.2.2.2.2.2 + 6 * (c'.2.2.2.2.1 - c.2.2.2.2.1)
theorem CF_rf {tr pc : Nat} {c : ck_S} : CF tr pc c c := ⟨fun _ _ _ _ => rfl, rfl, rfl, fun _ _ => rfl, fun _ _ _ => rfl, fun _ _ => rfl, fun _ => rfl, fun _ _ _ h => h⟩
theorem CH_rf {c : ck_S} : CH c c := ⟨Nat.le_refl _, fun _ _ => rfl, by omega⟩
theorem CF_tr {tr pc pc' : Nat} {c c1 c2 : ck_S} (h : CF tr pc c c1) (k : CF tr pc' c1 c2) (hp : pc ≤ pc') : CF tr pc c c2 := by
  obtain ⟨a1, a2, a3, a4, a5, a6, a7, a8⟩ := h
  obtain ⟨b1, b2, b3, b4, b5, b6, b7, b8⟩ := k
  refine ⟨fun j x y z => (b1 j x y z).trans (a1 j x y z), b2.trans a2, b3.trans a3, fun i hi => (b4 i hi).trans (a4 i hi), fun l hl h0 => ?_, fun i hi => (b6 i (by omega)).trans (a6 i hi), fun h0 => ?_, fun k h2 h4 h0 => b8 k h2 h4 (a8 k h2 h4 h0)⟩
  · have e := a5 l hl h0
    rw [b5 l hl (by rw [e]; exact h0), e]
  · have e := a7 h0
    rw [b7 (by rw [e]; exact h0), e]
theorem CH_tr {c c1 c2 : ck_S} (h : CH c c1) (k : CH c1 c2) : CH c c2 := by
  obtain ⟨a1, a2, a3⟩ := h
  obtain ⟨b1, b2, b3⟩ := k
  exact ⟨by omega, fun q hq => (b2 q (by omega)).trans (a2 q hq), by omega⟩
section B2
variable {sz at_ dp lc tr pc sc : Nat} {c : ck_S}
theorem CF_P : CF tr pc c (cP c) := ⟨fun _ h _ _ => upd_ne h, rfl, rfl, fun _ _ => rfl, fun _ _ _ => rfl, fun _ _ => rfl, fun _ => rfl, fun _ _ _ h => h⟩
theorem CF_R : CF tr pc c (cR c) := by
  unfold cR
  by_cases hb : c.2.1 2 1 = 501
  · rw [if_pos hb]
    refine ⟨fun _ _ _ _ => rfl, rfl, rfl, fun _ _ => rfl, fun _ _ _ => rfl, fun _ _ => rfl, fun h => absurd hb h, fun k h2 h4 h0 => ?_⟩
    show upd (c.2.1 2) 1 (c.1 8) k ≠ 501
    rw [upd_ne (by omega)]
    exact h0
  · rw [if_neg hb]
    exact CF_rf
theorem CF_N {k w : Nat} (hk : 2 ≤ k) (hk4 : k ≤ 4) (hw : w ≤ 500) (h : CW sz at_ dp lc tr pc sc c) : CF tr pc c (cN k w c) := by
  refine ⟨fun _ _ _ _ => rfl, rfl, rfl, fun _ _ => rfl, fun _ _ _ => rfl, fun _ _ => rfl, fun _ => (CW_N hk hk4 hw h).2.1, fun j h2 h4 h0 => ?_⟩
  by_cases hj : j = k
  · subst hj
    exact (CW_N hk hk4 hw h).2.2
  · show upd (c.2.1 2) k _ j ≠ 501
    rw [upd_ne hj]
    exact h0
theorem CH_P : CH c (cP c) := ⟨Nat.le_refl _, fun _ _ => rfl, by show c.2.2.2.2.2 = _ + 6 * (c.2.2.2.2.1 - c.2.2.2.2.1); omega⟩
theorem CH_R : CH c (cR c) := by
  unfold cR
  by_cases hb : c.2.1 2 1 = 501
  · rw [if_pos hb]
    exact ⟨Nat.le_refl _, fun _ _ => rfl, by show c.2.2.2.2.2 = _ + 6 * (c.2.2.2.2.1 - c.2.2.2.2.1); omega⟩
  · rw [if_neg hb]
    exact CH_rf
theorem CH_N {k w : Nat} : CH c (cN k w c) := ⟨Nat.le_refl _, fun _ _ => rfl, by show c.2.2.2.2.2 = _ + 6 * (c.2.2.2.2.1 - c.2.2.2.2.1); omega⟩
def CV (sz at_ dp lc tr pc sc : Nat) (c c' : ck_S) (at' pc' sc' : Nat) : Prop := CW sz at' dp lc tr pc' sc' c' ∧ at_ ≤ at' ∧ pc ≤ pc' ∧ sc ≤ sc' ∧ CF tr pc c c' ∧ CH c c' ∧ (c.2.1 2 1 ≠ 501 → at' = at_)
def NN (c' : ck_S) (a : Nat) : Prop := ∃ kd v f w o, c'.2.2.2.1 a = some (nC kd v f w o none)
def CU (sz at_ dp lc tr pc sc : Nat) (c : ck_S) (a : Nat) (c' : ck_S) : Prop := ∃ at' pc' sc', CV sz at_ dp lc tr pc sc c c' at' pc' sc' ∧ pc' + at_ ≤ pc + at' ∧ c'.2.2.2.2.1 ≤ c.2.2.2.2.1 + 12 * (at' - at_) + 1 ∧ c.2.2.2.2.1 ≤ a ∧ a < c'.2.2.2.2.1 ∧ NN c' a
theorem CV_tr {c1 c2 : ck_S} {a1 p1 s1 a2 p2 s2 : Nat} (h : CV sz at_ dp lc tr pc sc c c1 a1 p1 s1) (k : CV sz a1 dp lc tr p1 s1 c1 c2 a2 p2 s2) : CV sz at_ dp lc tr pc sc c c2 a2 p2 s2 := by
  obtain ⟨b1, b2, b3, b5, b6, b7, b8⟩ := h
  obtain ⟨d1, d2, d3, d5, d6, d7, d8⟩ := k
  refine ⟨d1, by omega, by omega, by omega, CF_tr b6 d6 b3, CH_tr b7 d7, fun h0 => ?_⟩
  have := b8 h0
  have e := b6.2.2.2.2.2.2.1 h0
  have := d8 (by rw [e]; exact h0)
  omega
theorem CV_rf (h : CW sz at_ dp lc tr pc sc c) : CV sz at_ dp lc tr pc sc c c at_ pc sc := ⟨h, Nat.le_refl _, Nat.le_refl _, Nat.le_refl _, CF_rf, CH_rf, fun _ => rfl⟩
theorem CV_R (h : CW sz at_ dp lc tr pc sc c) : CV sz at_ dp lc tr pc sc c (cR c) at_ pc sc := ⟨(CW_R h).1, Nat.le_refl _, Nat.le_refl _, Nat.le_refl _, CF_R, CH_R, fun _ => rfl⟩
theorem CV_P (h : CW sz at_ dp lc tr pc sc c) (hl : at_ < sz) (hb : c.2.1 2 1 = 501) : CV sz at_ dp lc tr pc sc c (cP c) (at_ + 1) pc sc := ⟨CW_P h hl, by omega, Nat.le_refl _, Nat.le_refl _, CF_P, CH_P, fun h0 => absurd hb h0⟩
theorem CV_N {k w : Nat} (hk : 2 ≤ k) (hk4 : k ≤ 4) (hw : w ≤ 500) (h : CW sz at_ dp lc tr pc sc c) : CV sz at_ dp lc tr pc sc c (cN k w c) at_ pc sc := ⟨(CW_N hk hk4 hw h).1, Nat.le_refl _, Nat.le_refl _, Nat.le_refl _, CF_N hk hk4 hw h, CH_N, fun _ => rfl⟩
theorem CV_ex {v1 : Int32} (hv : v1 ≠ -1) (h : CW sz at_ dp lc tr pc sc c) : ∃ at', CV sz at_ dp lc tr pc sc c (if pk sz at_ c = v1 then cP c else cR c) at' pc sc ∧ at' ≤ at_ + 1 ∧ (pk sz at_ c = v1 → at' = at_ + 1) := by
  by_cases he : pk sz at_ c = v1
  · rw [if_pos he]
    rcases pk_r h with h1 | ⟨h1, h2, _⟩
    · exact absurd (he.symm.trans h1) hv
    · exact ⟨at_ + 1, CV_P h h2 h1, Nat.le_refl _, fun _ => rfl⟩
  · rw [if_neg he]
    exact ⟨at_, CV_R h, by omega, fun e => absurd e he⟩
def cM (c : ck_S) (z : gx_C) : ck_S := (c.1, c.2.1, c.2.2.1, eset c.2.2.2.1 c.2.2.2.2.1 z, c.2.2.2.2.1 + 1, c.2.2.2.2.2 + 6)
theorem CV_M {z : gx_C} (h : CW sz at_ dp lc tr pc sc c) : CV sz at_ dp lc tr pc sc c (cM c z) at_ pc sc := by
  refine ⟨h, Nat.le_refl _, Nat.le_refl _, Nat.le_refl _, ⟨fun _ _ _ _ => rfl, rfl, rfl, fun _ _ => rfl, fun _ _ _ => rfl, fun _ _ => rfl, fun _ => rfl, fun _ _ _ h => h⟩, ⟨Nat.le_succ _, fun q hq => eset_ne (Nat.ne_of_lt hq), ?_⟩, fun _ => rfl⟩
  show c.2.2.2.2.2 + 6 = c.2.2.2.2.2 + 6 * (c.2.2.2.2.1 + 1 - c.2.2.2.2.1)
  omega
def cE (c : ck_S) (a : Nat) (z : gx_C) : ck_S := (c.1, c.2.1, c.2.2.1, eset c.2.2.2.1 a z, c.2.2.2.2)
theorem CW_E {a : Nat} {z : gx_C} (h : CW sz at_ dp lc tr pc sc c) : CW sz at_ dp lc tr pc sc (cE c a z) := h
theorem CV_E {c0 : ck_S} {a0 p0 s0 : Nat} {a : Nat} {z : gx_C} (h : CV sz a0 dp lc tr p0 s0 c0 c at_ pc sc) (ha : c0.2.2.2.2.1 ≤ a) : CV sz a0 dp lc tr p0 s0 c0 (cE c a z) at_ pc sc := by
  obtain ⟨b1, b2, b3, b5, b6, b7, b8⟩ := h
  refine ⟨b1, b2, b3, b5, b6, ⟨b7.1, fun q hq => ?_, b7.2.2⟩, b8⟩
  show eset c.2.2.2.1 a z q = _
  rw [eset_ne (by omega)]
  exact b7.2.1 q hq
theorem leaf_eq {kd v : Int32} : sp_Node_init c.2.2.2.2.1 kd v none (cM c nD) = some (cM c (nC kd v none (if kd = 1 then v else 0) (cA kd v []) none)) := by
  have := nd_init (E := (cM c nD).2.2.2.1) (a := c.2.2.2.2.1) (σ := cM c nD) rfl (kd := kd) (v := v) (l := []) (c := none) eset_eq rfl (by simp) (fun x hx => by cases hx)
  rw [this]
  unfold cM
  simp only
  rw [eset2]
  rfl
theorem nothing_eq : sp_Rd_nothing c = some (some c.2.2.2.2.1, cM c (nC 0 0 none 0 1 none)) := by
  unfold sp_Rd_nothing
  have := leaf_eq (c := c) (kd := 0) (v := 0)
  unfold cM nD at this
  unfold cM
  rw [this]
  rfl
theorem emit_eq {v : Int32} : sp_Rd_newEmit v c = some (some c.2.2.2.2.1, cM c (nC 2 v none 0 1 none)) := by
  unfold sp_Rd_newEmit
  have := leaf_eq (c := c) (kd := 2) (v := v)
  unfold cM nD at this
  unfold cM
  rw [this]
  rfl
theorem exit_eq {v : Int32} : sp_Rd_newExit v c = some (some c.2.2.2.2.1, cM c (nC 7 v none 0 ((1 : Int32) <<< (v &&& 31)) none)) := by
  unfold sp_Rd_newExit
  have := leaf_eq (c := c) (kd := 7) (v := v)
  unfold cM nD at this
  unfold cM
  rw [this]
  rfl
end B2
