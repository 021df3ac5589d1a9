def q_in (x y z : Int32) : Int32 := if x < y then 0 else if z < x then 0 else 1
theorem q_in_b (x y z : Int32) : q_in x y z = 0 ∨ q_in x y z = 1 := by
  unfold q_in
  by_cases h1 : x < y
  · rw [if_pos h1]
    exact Or.inl rfl
  · rw [if_neg h1]
    by_cases h2 : z < x
    · rw [if_pos h2]
      exact Or.inl rfl
    · rw [if_neg h2]
      exact Or.inr rfl
section OP1
variable {l : Launch} {F : gx_F} {d : Nat} {M M' : gx_M} {a : Nat} {A : Nat → Nat} {pc : Nat} {L : List (Option Value)} {st : List Value} {σ : gm_S} {P : Option Value → gm_S → Prop}
theorem c_Md_inQ (x y z : Int32) (h : gx_H) : gx_Has l F d m_Md_in [.int x, .int y, .int z] h (fun v h' => v = some (.int (q_in x y z)) ∧ h' = h) := c_Md_in x y z h
theorem c_Md_greaterQ (x y : Int32) (h : gx_H) : gx_Has l F d m_Md_greater [.int x, .int y] h (fun v h' => v = some (.int (q_gr x y)) ∧ h' = h) := c_Md_greater x y h
/-- a call whose answer and end are known, and its answer's type -/
theorem gm_ivB {i : gx_I} {idx : Nat} {As rest : List Value} {e : Value} {σ1 : gm_S} (hM : gx_ok M) (ha : gx_at M.2 pc = some i) (hi : i.1 = .invokevirtual idx) (hy : i.2.2.2.2.2.2.2 = M'.1) (hn : As.length = M'.1.2.2.2.2) (hs : st = As.reverse ++ .ref a :: rest) (hcn : M'.1.1.cls = gx_c7.1) (hw : (rest.map fun v => v.category).sum ≤ 8)
    (hm : gm_Has l F d M' a A As σ (fun v σ' => v = some e ∧ σ' = σ1)) (kk : gx_nar M'.1.2.2.2.1 (some e) → gm_Go l F (d + 1) M a A i.2.2.2.2.1 L (e :: rest) σ1 P) : gm_Go l F (d + 1) M a A pc L st σ P := by
  refine gm_iv hM ha hi hy hn hs hcn hw hm fun v σ' hv hq => ?_
  obtain ⟨rfl, rfl⟩ := hq
  exact kk hv
theorem gm_tJ {i : gx_I} {dflt lo hi9 off : Int} {offs : Array Int} {x j : Int32} {tgt : Nat} (hM : gx_ok M) (ha : gx_at M.2 pc = some i) (hi : i.1 = .tableswitch dflt lo hi9 offs) (hx : x = j) (h1 : ¬ j.toInt < lo) (h2 : ¬ hi9 < j.toInt) (ho : offs[(j.toInt - lo).toNat]? = some off) (ht : (pc : Int) + off = (tgt : Int)) (kk : gm_Go l F d M a A tgt L st σ P) : gm_Go l F d M a A pc L (.int x :: st) σ P := by
  subst hx
  exact gm_tI hM ha hi h1 h2 ho ht kk
theorem sw_o5 {x : Int32} (h0 : ¬ x = 0) (h1 : ¬ x = 1) (h2 : ¬ x = 2) (h3 : ¬ x = 3) (h4 : ¬ x = 4) : x.toInt < 0 ∨ 4 < x.toInt := by
  simp only [← Int32.toInt_inj] at h0 h1 h2 h3 h4
  have e0 : (0 : Int32).toInt = 0 := rfl
  have e1 : (1 : Int32).toInt = 1 := rfl
  have e2 : (2 : Int32).toInt = 2 := rfl
  have e3 : (3 : Int32).toInt = 3 := rfl
  have e4 : (4 : Int32).toInt = 4 := rfl
  omega
def sp_Md_thrown   (σ : gm_S) : Option (Int32 × gm_S) := some ((σ.1 0), σ)
theorem c_sp_Md_thrown   {σ : gm_S} {r : Int32 × gm_S} (hp : sp_Md_thrown   σ = some r) : gm_Has l F (d) m_Md_thrown a A [] σ (fun w σ' => w = some (.int r.1) ∧ σ' = r.2) := by
  refine gm_meth (k := 0) (L := [some (.ref a)]) pn_Md rfl (Nat.le_of_ble_eq_true rfl) ?_
  unfold sp_Md_thrown at hp
  refine gm_p k_Md_thrown rfl rfl ?_
  refine gm_g k_Md_thrown rfl rfl rfl rfl ?_
  cases hp
  exact gm_ret (v := some (.int _)) k_Md_thrown rfl rfl trivial rfl ⟨rfl, rfl⟩
def sp_Md_isProgram  (v1 : Int32) (σ : gm_S) : Option (Int32 × gm_S) := (if (σ.1 7) = 0 then some (0, σ) else (if (q_in v1 0 ((σ.1 10) - 1)) = 0 then some (0, σ) else some (1, σ)))
theorem c_sp_Md_isProgram  {v1 : Int32} {σ : gm_S} {r : Int32 × gm_S} (hp : sp_Md_isProgram  v1 σ = some r) : gm_Has l F (d + 1) m_Md_isProgram a A [.int v1] σ (fun w σ' => w = some (.int r.1) ∧ σ' = r.2) := by
  refine gm_meth (k := 0) (L := [some (.ref a), some (.int v1)]) pn_Md rfl (Nat.le_of_ble_eq_true rfl) ?_
  unfold sp_Md_isProgram at hp
  refine gm_p k_Md_isProgram rfl rfl ?_
  refine gm_g k_Md_isProgram rfl rfl rfl rfl ?_
  refine gm_if k_Md_isProgram rfl rfl rfl (fun h1 => ?_) (fun h1 => ?_)
  · skip
    rw [if_pos (show (σ.1 7) = 0 from h1)] at hp
    refine gm_p k_Md_isProgram rfl rfl ?_
    cases hp
    exact gm_ret (v := some (.int _)) k_Md_isProgram rfl rfl (Or.inl rfl) rfl ⟨rfl, rfl⟩
  · skip
    rw [if_neg (show ¬ ((σ.1 7) = 0) from h1)] at hp
    refine gm_p k_Md_isProgram rfl rfl ?_
    refine gm_p k_Md_isProgram rfl rfl ?_
    refine gm_p k_Md_isProgram rfl rfl ?_
    refine gm_g k_Md_isProgram rfl rfl rfl rfl ?_
    refine gm_p k_Md_isProgram rfl rfl ?_
    refine gm_p k_Md_isProgram rfl rfl ?_
    refine gm_is (M' := m_Md_in) (As := [.int v1, .int 0, .int ((σ.1 10) - 1)]) k_Md_isProgram rfl rfl rfl rfl rfl rfl (Nat.le_of_ble_eq_true rfl) (fun h => c_Md_inQ v1 0 ((σ.1 10) - 1) h) ?_
    refine gm_if k_Md_isProgram rfl rfl rfl (fun h2 => ?_) (fun h2 => ?_)
    · skip
      rw [if_pos (show (q_in v1 0 ((σ.1 10) - 1)) = 0 from h2)] at hp
      refine gm_p k_Md_isProgram rfl rfl ?_
      cases hp
      exact gm_ret (v := some (.int _)) k_Md_isProgram rfl rfl (Or.inl rfl) rfl ⟨rfl, rfl⟩
    · skip
      rw [if_neg (show ¬ ((q_in v1 0 ((σ.1 10) - 1)) = 0) from h2)] at hp
      refine gm_p k_Md_isProgram rfl rfl ?_
      refine gm_j k_Md_isProgram rfl rfl ?_
      cases hp
      exact gm_ret (v := some (.int _)) k_Md_isProgram rfl rfl (Or.inr rfl) rfl ⟨rfl, rfl⟩
def sp_Md_isInstance  (v1 : Int32) (σ : gm_S) : Option (Int32 × gm_S) := some ((q_in v1 0 ((σ.1 44) - 1)), σ)
theorem c_sp_Md_isInstance  {v1 : Int32} {σ : gm_S} {r : Int32 × gm_S} (hp : sp_Md_isInstance  v1 σ = some r) : gm_Has l F (d + 1) m_Md_isInstance a A [.int v1] σ (fun w σ' => w = some (.int r.1) ∧ σ' = r.2) := by
  refine gm_meth (k := 0) (L := [some (.ref a), some (.int v1)]) pn_Md rfl (Nat.le_of_ble_eq_true rfl) ?_
  unfold sp_Md_isInstance at hp
  refine gm_p k_Md_isInstance rfl rfl ?_
  refine gm_p k_Md_isInstance rfl rfl ?_
  refine gm_p k_Md_isInstance rfl rfl ?_
  refine gm_g k_Md_isInstance rfl rfl rfl rfl ?_
  refine gm_p k_Md_isInstance rfl rfl ?_
  refine gm_p k_Md_isInstance rfl rfl ?_
  refine gm_is (M' := m_Md_in) (As := [.int v1, .int 0, .int ((σ.1 44) - 1)]) k_Md_isInstance rfl rfl rfl rfl rfl rfl (Nat.le_of_ble_eq_true rfl) (fun h => c_Md_inQ v1 0 ((σ.1 44) - 1) h) ?_
  cases hp
  exact gm_ret (v := some (.int _)) k_Md_isInstance rfl rfl (q_in_b _ _ _) rfl ⟨rfl, rfl⟩
def sp_Md_type_80   : Nat → Int64 → Int32 → Int32 → gm_S → Option (Int32 × gm_S)
  | 0, _, _, _, _ => none
  | m + 1, v1, v3, v4, σ => (if v4 < 0 then some (1, σ) else (if gi (σ.1 1) 500 = true then sp_Md_type_80   m v1 v3 (v4 + (-1)) ((upd σ.1 1 ((σ.1 1) + 1)), (gm_up σ.2 2 (upd (σ.2 2) (σ.1 1).toNatClampNeg (Int64.toInt32 ((v1 >>> (Int32.toInt64 (8 * v4) &&& 63)) &&& 255))))) else none))
theorem c_sp_Md_type_80  {r : Int32 × gm_S} : ∀ (m : Nat) (v1 : Int64) (v3 : Int32) (v4 : Int32) (σ : gm_S), sp_Md_type_80   m v1 v3 v4 σ = some r → ∀ x5 : Option Value, gm_Go l F (d) m_Md_type a A 80 ([some (.ref a), some (.long v1), none, some (.int v3), some (.int v4), x5]) [] σ (fun w σ' => w = some (.int r.1) ∧ σ' = r.2) := by
  intro m
  induction m with
  | zero => intro v1 v3 v4 σ hp; cases hp
  | succ m ihm =>
    intro v1 v3 v4 σ hp x5
    unfold sp_Md_type_80 at hp
    refine gm_p k_Md_type rfl rfl ?_
    refine gm_if k_Md_type rfl rfl rfl (fun h5 => ?_) (fun h5 => ?_)
    · skip
      rw [if_pos (show v4 < 0 from h5)] at hp
      refine gm_p k_Md_type rfl rfl ?_
      cases hp
      exact gm_ret (v := some (.int _)) k_Md_type rfl rfl (Or.inr rfl) rfl ⟨rfl, rfl⟩
    · skip
      rw [if_neg (show ¬ (v4 < 0) from h5)] at hp
      refine gm_p k_Md_type rfl rfl ?_
      refine gm_g k_Md_type rfl rfl rfl rfl ?_
      refine gm_p k_Md_type rfl rfl ?_
      refine gm_g k_Md_type rfl rfl rfl rfl ?_
      refine gm_p k_Md_type rfl rfl ?_
      refine gm_p k_Md_type rfl rfl ?_
      refine gm_p k_Md_type rfl rfl ?_
      refine gm_p k_Md_type rfl rfl ?_
      refine gm_p k_Md_type rfl rfl ?_
      refine gm_l2w k_Md_type rfl rfl ?_
      refine gm_p k_Md_type rfl rfl ?_
      refine gm_p k_Md_type rfl rfl ?_
      by_cases g6 : gi (σ.1 1) 500 = true
      · rw [if_pos g6] at hp
        refine gm_sto k_Md_type rfl rfl (gi_in g6) (by decide) ?_
        refine gm_p k_Md_type rfl rfl ?_
        refine gm_p k_Md_type rfl rfl ?_
        refine gm_g k_Md_type rfl rfl rfl rfl ?_
        refine gm_p k_Md_type rfl rfl ?_
        refine gm_p k_Md_type rfl rfl ?_
        refine gm_pt k_Md_type rfl rfl rfl trivial (by decide) rfl ?_
        refine gm_p (L' := [some (.ref a), some (.long v1), none, some (.int v3), some (.int (v4 + (-1))), x5]) (st' := []) k_Md_type rfl rfl ?_
        refine gm_j k_Md_type rfl rfl ?_
        exact ihm _ _ _ _ hp _
      · rw [if_neg g6] at hp
        cases hp
def sp_Md_type_33   : Nat → Int64 → Int32 → Int32 → gm_S → Option (Int32 × gm_S)
  | 0, _, _, _, _ => none
  | m + 1, v1, v3, v4, σ => (if v3 ≤ v4 then sp_Md_type_80   2601 v1 v3 (v3 - 1) σ else (if (Int64.toInt32 ((v1 >>> (Int32.toInt64 (8 * v4) &&& 63)) &&& 255)) < 33 then some (0, σ) else (if (Int64.toInt32 ((v1 >>> (Int32.toInt64 (8 * v4) &&& 63)) &&& 255)) ≤ 126 then sp_Md_type_33   m v1 v3 (v4 + 1) σ else some (0, σ))))
theorem c_sp_Md_type_33  {r : Int32 × gm_S} : ∀ (m : Nat) (v1 : Int64) (v3 : Int32) (v4 : Int32) (σ : gm_S), sp_Md_type_33   m v1 v3 v4 σ = some r → ∀ x5 : Option Value, gm_Go l F (d) m_Md_type a A 33 ([some (.ref a), some (.long v1), none, some (.int v3), some (.int v4), x5]) [] σ (fun w σ' => w = some (.int r.1) ∧ σ' = r.2) := by
  intro m
  induction m with
  | zero => intro v1 v3 v4 σ hp; cases hp
  | succ m ihm =>
    intro v1 v3 v4 σ hp x5
    unfold sp_Md_type_33 at hp
    refine gm_p k_Md_type rfl rfl ?_
    refine gm_p k_Md_type rfl rfl ?_
    refine gm_ic k_Md_type rfl rfl rfl (fun h4 => ?_) (fun h4 => ?_)
    · skip
      rw [if_pos (show v3 ≤ v4 from h4)] at hp
      refine gm_p k_Md_type rfl rfl ?_
      refine gm_p k_Md_type rfl rfl ?_
      refine gm_p k_Md_type rfl rfl ?_
      refine gm_p (L' := [some (.ref a), some (.long v1), none, some (.int v3), some (.int (v3 - 1)), x5]) (st' := []) k_Md_type rfl rfl ?_
      exact c_sp_Md_type_80   _ _ _ _ _ hp _
    · skip
      rw [if_neg (show ¬ (v3 ≤ v4) from h4)] at hp
      refine gm_p k_Md_type rfl rfl ?_
      refine gm_p k_Md_type rfl rfl ?_
      refine gm_p k_Md_type rfl rfl ?_
      refine gm_p k_Md_type rfl rfl ?_
      refine gm_p k_Md_type rfl rfl ?_
      refine gm_l2w k_Md_type rfl rfl ?_
      refine gm_p k_Md_type rfl rfl ?_
      refine gm_p k_Md_type rfl rfl ?_
      refine gm_p (L' := [some (.ref a), some (.long v1), none, some (.int v3), some (.int v4), some (.int (Int64.toInt32 ((v1 >>> (Int32.toInt64 (8 * v4) &&& 63)) &&& 255)))]) (st' := []) k_Md_type rfl rfl ?_
      refine gm_p k_Md_type rfl rfl ?_
      refine gm_p k_Md_type rfl rfl ?_
      refine gm_ic k_Md_type rfl rfl rfl (fun h7 => ?_) (fun h7 => ?_)
      · skip
        rw [if_pos (show (Int64.toInt32 ((v1 >>> (Int32.toInt64 (8 * v4) &&& 63)) &&& 255)) < 33 from h7)] at hp
        refine gm_p k_Md_type rfl rfl ?_
        cases hp
        exact gm_ret (v := some (.int _)) k_Md_type rfl rfl (Or.inl rfl) rfl ⟨rfl, rfl⟩
      · skip
        rw [if_neg (show ¬ ((Int64.toInt32 ((v1 >>> (Int32.toInt64 (8 * v4) &&& 63)) &&& 255)) < 33) from h7)] at hp
        refine gm_p k_Md_type rfl rfl ?_
        refine gm_p k_Md_type rfl rfl ?_
        refine gm_ic k_Md_type rfl rfl rfl (fun h8 => ?_) (fun h8 => ?_)
        · skip
          rw [if_pos (show (Int64.toInt32 ((v1 >>> (Int32.toInt64 (8 * v4) &&& 63)) &&& 255)) ≤ 126 from h8)] at hp
          refine gm_p (L' := [some (.ref a), some (.long v1), none, some (.int v3), some (.int (v4 + 1)), some (.int (Int64.toInt32 ((v1 >>> (Int32.toInt64 (8 * v4) &&& 63)) &&& 255)))]) (st' := []) k_Md_type rfl rfl ?_
          refine gm_j k_Md_type rfl rfl ?_
          exact ihm _ _ _ _ hp _
        · skip
          rw [if_neg (show ¬ ((Int64.toInt32 ((v1 >>> (Int32.toInt64 (8 * v4) &&& 63)) &&& 255)) ≤ 126) from h8)] at hp
          refine gm_p k_Md_type rfl rfl ?_
          cases hp
          exact gm_ret (v := some (.int _)) k_Md_type rfl rfl (Or.inl rfl) rfl ⟨rfl, rfl⟩
def sp_Md_type  (v1 : Int64) (v3 : Int32) (σ : gm_S) : Option (Int32 × gm_S) := (if v3 < 1 then some (0, ((upd σ.1 0 0), σ.2)) else (if (8 : Int32) < v3 then some (0, ((upd σ.1 0 0), σ.2)) else (if ((σ.1 1) + v3) ≤ 500 then sp_Md_type_33   2601 v1 v3 0 ((upd σ.1 0 0), σ.2) else some (0, ((upd σ.1 0 0), σ.2)))))
theorem c_sp_Md_type  {v1 : Int64} {v3 : Int32} {σ : gm_S} {r : Int32 × gm_S} (hp : sp_Md_type  v1 v3 σ = some r) : gm_Has l F (d) m_Md_type a A [.long v1, .int v3] σ (fun w σ' => w = some (.int r.1) ∧ σ' = r.2) := by
  refine gm_meth (k := 2) (L := [some (.ref a), some (.long v1), none, some (.int v3), none, none]) pn_Md rfl (Nat.le_of_ble_eq_true rfl) ?_
  unfold sp_Md_type at hp
  refine gm_p k_Md_type rfl rfl ?_
  refine gm_p k_Md_type rfl rfl ?_
  refine gm_pt k_Md_type rfl rfl rfl trivial (by decide) rfl ?_
  refine gm_p k_Md_type rfl rfl ?_
  refine gm_p k_Md_type rfl rfl ?_
  refine gm_ic k_Md_type rfl rfl rfl (fun h1 => ?_) (fun h1 => ?_)
  · skip
    rw [if_pos (show v3 < 1 from h1)] at hp
    refine gm_p k_Md_type rfl rfl ?_
    cases hp
    exact gm_ret (v := some (.int _)) k_Md_type rfl rfl (Or.inl rfl) rfl ⟨rfl, rfl⟩
  · skip
    rw [if_neg (show ¬ (v3 < 1) from h1)] at hp
    refine gm_p k_Md_type rfl rfl ?_
    refine gm_p k_Md_type rfl rfl ?_
    refine gm_ic k_Md_type rfl rfl rfl (fun h2 => ?_) (fun h2 => ?_)
    · skip
      rw [if_pos (show (8 : Int32) < v3 from h2)] at hp
      refine gm_p k_Md_type rfl rfl ?_
      cases hp
      exact gm_ret (v := some (.int _)) k_Md_type rfl rfl (Or.inl rfl) rfl ⟨rfl, rfl⟩
    · skip
      rw [if_neg (show ¬ ((8 : Int32) < v3) from h2)] at hp
      refine gm_p k_Md_type rfl rfl ?_
      refine gm_g k_Md_type rfl rfl rfl rfl ?_
      refine gm_p k_Md_type rfl rfl ?_
      refine gm_p k_Md_type rfl rfl ?_
      refine gm_p k_Md_type rfl rfl ?_
      refine gm_ic k_Md_type rfl rfl rfl (fun h3 => ?_) (fun h3 => ?_)
      · skip
        rw [if_pos (show ((σ.1 1) + v3) ≤ 500 from h3)] at hp
        refine gm_p k_Md_type rfl rfl ?_
        refine gm_p (L' := [some (.ref a), some (.long v1), none, some (.int v3), some (.int 0), none]) (st' := []) k_Md_type rfl rfl ?_
        exact c_sp_Md_type_33   _ _ _ _ _ hp _
      · skip
        rw [if_neg (show ¬ (((σ.1 1) + v3) ≤ 500) from h3)] at hp
        refine gm_p k_Md_type rfl rfl ?_
        cases hp
        exact gm_ret (v := some (.int _)) k_Md_type rfl rfl (Or.inl rfl) rfl ⟨rfl, rfl⟩
def sp_Md_fault  (v1 : Int32) (σ : gm_S) : Option (Int32 × gm_S) := (if v1 = 0 then some ((σ.1 8), ((upd σ.1 0 0), σ.2)) else (if v1 = 1 then some ((σ.1 9), ((upd σ.1 0 0), σ.2)) else some ((-1), ((upd σ.1 0 0), σ.2))))
theorem c_sp_Md_fault  {v1 : Int32} {σ : gm_S} {r : Int32 × gm_S} (hp : sp_Md_fault  v1 σ = some r) : gm_Has l F (d) m_Md_fault a A [.int v1] σ (fun w σ' => w = some (.int r.1) ∧ σ' = r.2) := by
  refine gm_meth (k := 0) (L := [some (.ref a), some (.int v1)]) pn_Md rfl (Nat.le_of_ble_eq_true rfl) ?_
  unfold sp_Md_fault at hp
  refine gm_p k_Md_fault rfl rfl ?_
  refine gm_p k_Md_fault rfl rfl ?_
  refine gm_pt k_Md_fault rfl rfl rfl trivial (by decide) rfl ?_
  refine gm_p k_Md_fault rfl rfl ?_
  refine gm_if k_Md_fault rfl rfl rfl (fun h1 => ?_) (fun h1 => ?_)
  · skip
    rw [if_neg (show ¬ (v1 = 0) from h1)] at hp
    refine gm_p k_Md_fault rfl rfl ?_
    refine gm_p k_Md_fault rfl rfl ?_
    refine gm_ic k_Md_fault rfl rfl rfl (fun h2 => ?_) (fun h2 => ?_)
    · skip
      rw [if_neg (show ¬ (v1 = 1) from h2)] at hp
      refine gm_p k_Md_fault rfl rfl ?_
      cases hp
      exact gm_ret (v := some (.int _)) k_Md_fault rfl rfl trivial rfl ⟨rfl, rfl⟩
    · skip
      rw [if_pos (show v1 = 1 from h2)] at hp
      refine gm_p k_Md_fault rfl rfl ?_
      refine gm_g k_Md_fault rfl rfl rfl rfl ?_
      refine gm_j k_Md_fault rfl rfl ?_
      cases hp
      exact gm_ret (v := some (.int _)) k_Md_fault rfl rfl trivial rfl ⟨rfl, rfl⟩
  · skip
    rw [if_pos (show v1 = 0 from h1)] at hp
    refine gm_p k_Md_fault rfl rfl ?_
    refine gm_g k_Md_fault rfl rfl rfl rfl ?_
    refine gm_j k_Md_fault rfl rfl ?_
    cases hp
    exact gm_ret (v := some (.int _)) k_Md_fault rfl rfl trivial rfl ⟨rfl, rfl⟩
def sp_Md_program  (v1 : Int32) (v2 : Int32) (σ : gm_S) : Option (Int32 × gm_S) := (match sp_Md_isProgram  v1 ((upd σ.1 0 0), σ.2) with
  | none => none
  | some y1 => (if y1.1 = 0 then some ((-1), y1.2) else (if v2 = 0 then (if gi v1 7 = true then some (((y1.2.2 11) v1.toNatClampNeg), y1.2) else none) else (if v2 = 1 then (if gi v1 7 = true then some (((y1.2.2 12) v1.toNatClampNeg), y1.2) else none) else (if v2 = 2 then (if gi v1 7 = true then some (((y1.2.2 14) v1.toNatClampNeg), y1.2) else none) else (if v2 = 3 then (if gi v1 7 = true then some (((y1.2.2 17) v1.toNatClampNeg), y1.2) else none) else (if v2 = 4 then (if gi v1 7 = true then (if gi ((y1.2.2 16) v1.toNatClampNeg) 2600 = true then some (((y1.2.2 26) ((y1.2.2 16) v1.toNatClampNeg).toNatClampNeg), y1.2) else none) else none) else (if gi v1 7 = true then (if (q_in v2 100 (99 + ((y1.2.2 17) v1.toNatClampNeg))) = 0 then some ((-1), y1.2) else (if gi (((30 * v1) + v2) - 100) 210 = true then some (((y1.2.2 18) (((30 * v1) + v2) - 100).toNatClampNeg), y1.2) else none)) else none))))))))
theorem c_sp_Md_program  {v1 : Int32} {v2 : Int32} {σ : gm_S} {r : Int32 × gm_S} (hp : sp_Md_program  v1 v2 σ = some r) : gm_Has l F (d + 2) m_Md_program a A [.int v1, .int v2] σ (fun w σ' => w = some (.int r.1) ∧ σ' = r.2) := by
  refine gm_meth (k := 0) (L := [some (.ref a), some (.int v1), some (.int v2)]) pn_Md rfl (Nat.le_of_ble_eq_true rfl) ?_
  unfold sp_Md_program at hp
  refine gm_p k_Md_program rfl rfl ?_
  refine gm_p k_Md_program rfl rfl ?_
  refine gm_pt k_Md_program rfl rfl rfl trivial (by decide) rfl ?_
  refine gm_p k_Md_program rfl rfl ?_
  refine gm_p k_Md_program rfl rfl ?_
  cases hy1 : sp_Md_isProgram  v1 ((upd σ.1 0 0), σ.2) with
  | none =>
    rw [hy1] at hp
    cases hp
  | some y1 =>
    rw [hy1] at hp
    dsimp only at hp
    refine gm_ivB (M' := m_Md_isProgram) (As := [.int v1]) k_Md_program rfl rfl rfl rfl rfl rfl (Nat.le_of_ble_eq_true rfl) (c_sp_Md_isProgram  hy1) (fun hby1 => ?_)
    refine gm_if k_Md_program rfl rfl rfl (fun h2 => ?_) (fun h2 => ?_)
    · skip
      rw [if_neg (show ¬ (y1.1 = 0) from h2)] at hp
      refine gm_p k_Md_program rfl rfl ?_
      by_cases h3 : v2 = 0
      · rw [if_pos h3] at hp
        refine gm_tJ (tgt := 52) k_Md_program rfl rfl h3 (by decide) (by decide) rfl rfl ?_
        refine gm_p k_Md_program rfl rfl ?_
        refine gm_g k_Md_program rfl rfl rfl rfl ?_
        refine gm_p k_Md_program rfl rfl ?_
        by_cases g4 : gi v1 7 = true
        · rw [if_pos g4] at hp
          refine gm_ld k_Md_program rfl rfl (gi_in g4) (by decide) ?_
          cases hp
          exact gm_ret (v := some (.int _)) k_Md_program rfl rfl trivial rfl ⟨rfl, rfl⟩
        · rw [if_neg g4] at hp
          cases hp
      · rw [if_neg h3] at hp
        by_cases h5 : v2 = 1
        · rw [if_pos h5] at hp
          refine gm_tJ (tgt := 59) k_Md_program rfl rfl h5 (by decide) (by decide) rfl rfl ?_
          refine gm_p k_Md_program rfl rfl ?_
          refine gm_g k_Md_program rfl rfl rfl rfl ?_
          refine gm_p k_Md_program rfl rfl ?_
          by_cases g6 : gi v1 7 = true
          · rw [if_pos g6] at hp
            refine gm_ld k_Md_program rfl rfl (gi_in g6) (by decide) ?_
            cases hp
            exact gm_ret (v := some (.int _)) k_Md_program rfl rfl trivial rfl ⟨rfl, rfl⟩
          · rw [if_neg g6] at hp
            cases hp
        · rw [if_neg h5] at hp
          by_cases h7 : v2 = 2
          · rw [if_pos h7] at hp
            refine gm_tJ (tgt := 66) k_Md_program rfl rfl h7 (by decide) (by decide) rfl rfl ?_
            refine gm_p k_Md_program rfl rfl ?_
            refine gm_g k_Md_program rfl rfl rfl rfl ?_
            refine gm_p k_Md_program rfl rfl ?_
            by_cases g8 : gi v1 7 = true
            · rw [if_pos g8] at hp
              refine gm_ld k_Md_program rfl rfl (gi_in g8) (by decide) ?_
              cases hp
              exact gm_ret (v := some (.int _)) k_Md_program rfl rfl trivial rfl ⟨rfl, rfl⟩
            · rw [if_neg g8] at hp
              cases hp
          · rw [if_neg h7] at hp
            by_cases h9 : v2 = 3
            · rw [if_pos h9] at hp
              refine gm_tJ (tgt := 73) k_Md_program rfl rfl h9 (by decide) (by decide) rfl rfl ?_
              refine gm_p k_Md_program rfl rfl ?_
              refine gm_g k_Md_program rfl rfl rfl rfl ?_
              refine gm_p k_Md_program rfl rfl ?_
              by_cases g10 : gi v1 7 = true
              · rw [if_pos g10] at hp
                refine gm_ld k_Md_program rfl rfl (gi_in g10) (by decide) ?_
                cases hp
                exact gm_ret (v := some (.int _)) k_Md_program rfl rfl trivial rfl ⟨rfl, rfl⟩
              · rw [if_neg g10] at hp
                cases hp
            · rw [if_neg h9] at hp
              by_cases h11 : v2 = 4
              · rw [if_pos h11] at hp
                refine gm_tJ (tgt := 80) k_Md_program rfl rfl h11 (by decide) (by decide) rfl rfl ?_
                refine gm_p k_Md_program rfl rfl ?_
                refine gm_g k_Md_program rfl rfl rfl rfl ?_
                refine gm_p k_Md_program rfl rfl ?_
                refine gm_g k_Md_program rfl rfl rfl rfl ?_
                refine gm_p k_Md_program rfl rfl ?_
                by_cases g12 : gi v1 7 = true
                · rw [if_pos g12] at hp
                  refine gm_ld k_Md_program rfl rfl (gi_in g12) (by decide) ?_
                  by_cases g13 : gi ((y1.2.2 16) v1.toNatClampNeg) 2600 = true
                  · rw [if_pos g13] at hp
                    refine gm_ld k_Md_program rfl rfl (gi_in g13) (by decide) ?_
                    cases hp
                    exact gm_ret (v := some (.int _)) k_Md_program rfl rfl trivial rfl ⟨rfl, rfl⟩
                  · rw [if_neg g13] at hp
                    cases hp
                · rw [if_neg g12] at hp
                  cases hp
              · rw [if_neg h11] at hp
                refine gm_tO (tgt := 92) k_Md_program rfl rfl (sw_o5 h3 h5 h7 h9 h11) rfl ?_
                refine gm_p k_Md_program rfl rfl ?_
                refine gm_p k_Md_program rfl rfl ?_
                refine gm_p k_Md_program rfl rfl ?_
                refine gm_p k_Md_program rfl rfl ?_
                refine gm_g k_Md_program rfl rfl rfl rfl ?_
                refine gm_p k_Md_program rfl rfl ?_
                by_cases g14 : gi v1 7 = true
                · rw [if_pos g14] at hp
                  refine gm_ld k_Md_program rfl rfl (gi_in g14) (by decide) ?_
                  refine gm_p k_Md_program rfl rfl ?_
                  refine gm_is (M' := m_Md_in) (As := [.int v2, .int 100, .int (99 + ((y1.2.2 17) v1.toNatClampNeg))]) k_Md_program rfl rfl rfl rfl rfl rfl (Nat.le_of_ble_eq_true rfl) (fun h => c_Md_inQ v2 100 (99 + ((y1.2.2 17) v1.toNatClampNeg)) h) ?_
                  refine gm_if k_Md_program rfl rfl rfl (fun h15 => ?_) (fun h15 => ?_)
                  · skip
                    rw [if_pos (show (q_in v2 100 (99 + ((y1.2.2 17) v1.toNatClampNeg))) = 0 from h15)] at hp
                    refine gm_p k_Md_program rfl rfl ?_
                    cases hp
                    exact gm_ret (v := some (.int _)) k_Md_program rfl rfl trivial rfl ⟨rfl, rfl⟩
                  · skip
                    rw [if_neg (show ¬ ((q_in v2 100 (99 + ((y1.2.2 17) v1.toNatClampNeg))) = 0) from h15)] at hp
                    refine gm_p k_Md_program rfl rfl ?_
                    refine gm_g k_Md_program rfl rfl rfl rfl ?_
                    refine gm_p k_Md_program rfl rfl ?_
                    refine gm_p k_Md_program rfl rfl ?_
                    refine gm_p k_Md_program rfl rfl ?_
                    refine gm_p k_Md_program rfl rfl ?_
                    refine gm_p k_Md_program rfl rfl ?_
                    refine gm_p k_Md_program rfl rfl ?_
                    refine gm_p k_Md_program rfl rfl ?_
                    by_cases g16 : gi (((30 * v1) + v2) - 100) 210 = true
                    · rw [if_pos g16] at hp
                      refine gm_ld k_Md_program rfl rfl (gi_in g16) (by decide) ?_
                      refine gm_j k_Md_program rfl rfl ?_
                      cases hp
                      exact gm_ret (v := some (.int _)) k_Md_program rfl rfl trivial rfl ⟨rfl, rfl⟩
                    · rw [if_neg g16] at hp
                      cases hp
                · rw [if_neg g14] at hp
                  cases hp
    · skip
      rw [if_pos (show y1.1 = 0 from h2)] at hp
      refine gm_p k_Md_program rfl rfl ?_
      cases hp
      exact gm_ret (v := some (.int _)) k_Md_program rfl rfl trivial rfl ⟨rfl, rfl⟩
def sp_Md_make  (v1 : Int32) (σ : gm_S) : Option (Int32 × gm_S) := (match sp_Md_isProgram  v1 ((upd σ.1 0 0), σ.2) with
  | none => none
  | some y1 => (if y1.1 = 0 then some ((-1), y1.2) else (if (y1.2.1 44) = 8 then some ((-1), y1.2) else (if gi (y1.2.1 44) 8 = true then some ((((y1.2.1 44) + 1) - 1), ((upd y1.2.1 44 ((y1.2.1 44) + 1)), (gm_up (gm_up (gm_up (gm_up y1.2.2 45 (upd (y1.2.2 45) (y1.2.1 44).toNatClampNeg v1)) 46 (upd (y1.2.2 46) (y1.2.1 44).toNatClampNeg (-2))) 47 (upd (y1.2.2 47) (y1.2.1 44).toNatClampNeg 0)) 48 (upd (y1.2.2 48) (y1.2.1 44).toNatClampNeg 0)))) else none))))
theorem c_sp_Md_make  {v1 : Int32} {σ : gm_S} {r : Int32 × gm_S} (hp : sp_Md_make  v1 σ = some r) : gm_Has l F (d + 2) m_Md_make a A [.int v1] σ (fun w σ' => w = some (.int r.1) ∧ σ' = r.2) := by
  refine gm_meth (k := 0) (L := [some (.ref a), some (.int v1)]) pn_Md rfl (Nat.le_of_ble_eq_true rfl) ?_
  unfold sp_Md_make at hp
  refine gm_p k_Md_make rfl rfl ?_
  refine gm_p k_Md_make rfl rfl ?_
  refine gm_pt k_Md_make rfl rfl rfl trivial (by decide) rfl ?_
  refine gm_p k_Md_make rfl rfl ?_
  refine gm_p k_Md_make rfl rfl ?_
  cases hy1 : sp_Md_isProgram  v1 ((upd σ.1 0 0), σ.2) with
  | none =>
    rw [hy1] at hp
    cases hp
  | some y1 =>
    rw [hy1] at hp
    dsimp only at hp
    refine gm_ivB (M' := m_Md_isProgram) (As := [.int v1]) k_Md_make rfl rfl rfl rfl rfl rfl (Nat.le_of_ble_eq_true rfl) (c_sp_Md_isProgram  hy1) (fun hby1 => ?_)
    refine gm_if k_Md_make rfl rfl rfl (fun h2 => ?_) (fun h2 => ?_)
    · skip
      rw [if_pos (show y1.1 = 0 from h2)] at hp
      refine gm_p k_Md_make rfl rfl ?_
      cases hp
      exact gm_ret (v := some (.int _)) k_Md_make rfl rfl trivial rfl ⟨rfl, rfl⟩
    · skip
      rw [if_neg (show ¬ (y1.1 = 0) from h2)] at hp
      refine gm_p k_Md_make rfl rfl ?_
      refine gm_g k_Md_make rfl rfl rfl rfl ?_
      refine gm_p k_Md_make rfl rfl ?_
      refine gm_ic k_Md_make rfl rfl rfl (fun h3 => ?_) (fun h3 => ?_)
      · skip
        rw [if_neg (show ¬ ((y1.2.1 44) = 8) from h3)] at hp
        refine gm_p k_Md_make rfl rfl ?_
        refine gm_g k_Md_make rfl rfl rfl rfl ?_
        refine gm_p k_Md_make rfl rfl ?_
        refine gm_g k_Md_make rfl rfl rfl rfl ?_
        refine gm_p k_Md_make rfl rfl ?_
        by_cases g4 : gi (y1.2.1 44) 8 = true
        · rw [if_pos g4] at hp
          refine gm_sto k_Md_make rfl rfl (gi_in g4) (by decide) ?_
          refine gm_p k_Md_make rfl rfl ?_
          refine gm_g k_Md_make rfl rfl rfl rfl ?_
          refine gm_p k_Md_make rfl rfl ?_
          refine gm_g k_Md_make rfl rfl rfl rfl ?_
          refine gm_p k_Md_make rfl rfl ?_
          refine gm_sto k_Md_make rfl rfl (gi_in g4) (by decide) ?_
          refine gm_p k_Md_make rfl rfl ?_
          refine gm_g k_Md_make rfl rfl rfl rfl ?_
          refine gm_p k_Md_make rfl rfl ?_
          refine gm_g k_Md_make rfl rfl rfl rfl ?_
          refine gm_p k_Md_make rfl rfl ?_
          refine gm_sto k_Md_make rfl rfl (gi_in g4) (by decide) ?_
          refine gm_p k_Md_make rfl rfl ?_
          refine gm_g k_Md_make rfl rfl rfl rfl ?_
          refine gm_p k_Md_make rfl rfl ?_
          refine gm_g k_Md_make rfl rfl rfl rfl ?_
          refine gm_p k_Md_make rfl rfl ?_
          refine gm_sto k_Md_make rfl rfl (gi_in g4) (by decide) ?_
          refine gm_p k_Md_make rfl rfl ?_
          refine gm_p k_Md_make rfl rfl ?_
          refine gm_g k_Md_make rfl rfl rfl rfl ?_
          refine gm_p k_Md_make rfl rfl ?_
          refine gm_p k_Md_make rfl rfl ?_
          refine gm_pt k_Md_make rfl rfl rfl trivial (by decide) rfl ?_
          refine gm_p k_Md_make rfl rfl ?_
          refine gm_g k_Md_make rfl rfl rfl rfl ?_
          refine gm_p k_Md_make rfl rfl ?_
          refine gm_p k_Md_make rfl rfl ?_
          cases hp
          exact gm_ret (v := some (.int _)) k_Md_make rfl rfl trivial rfl ⟨rfl, rfl⟩
        · rw [if_neg g4] at hp
          cases hp
      · skip
        rw [if_pos (show (y1.2.1 44) = 8 from h3)] at hp
        refine gm_p k_Md_make rfl rfl ?_
        cases hp
        exact gm_ret (v := some (.int _)) k_Md_make rfl rfl trivial rfl ⟨rfl, rfl⟩
def sp_Md_out  (v1 : Int32) (σ : gm_S) : Option (Int32 × gm_S) := (match sp_Md_isInstance  v1 ((upd σ.1 0 0), σ.2) with
  | none => none
  | some y1 => (if y1.1 = 0 then some ((-1), y1.2) else (if gi v1 8 = true then some (((y1.2.2 47) v1.toNatClampNeg), y1.2) else none)))
theorem c_sp_Md_out  {v1 : Int32} {σ : gm_S} {r : Int32 × gm_S} (hp : sp_Md_out  v1 σ = some r) : gm_Has l F (d + 2) m_Md_out a A [.int v1] σ (fun w σ' => w = some (.int r.1) ∧ σ' = r.2) := by
  refine gm_meth (k := 0) (L := [some (.ref a), some (.int v1)]) pn_Md rfl (Nat.le_of_ble_eq_true rfl) ?_
  unfold sp_Md_out at hp
  refine gm_p k_Md_out rfl rfl ?_
  refine gm_p k_Md_out rfl rfl ?_
  refine gm_pt k_Md_out rfl rfl rfl trivial (by decide) rfl ?_
  refine gm_p k_Md_out rfl rfl ?_
  refine gm_p k_Md_out rfl rfl ?_
  cases hy1 : sp_Md_isInstance  v1 ((upd σ.1 0 0), σ.2) with
  | none =>
    rw [hy1] at hp
    cases hp
  | some y1 =>
    rw [hy1] at hp
    dsimp only at hp
    refine gm_ivB (M' := m_Md_isInstance) (As := [.int v1]) k_Md_out rfl rfl rfl rfl rfl rfl (Nat.le_of_ble_eq_true rfl) (c_sp_Md_isInstance  hy1) (fun hby1 => ?_)
    refine gm_if k_Md_out rfl rfl rfl (fun h2 => ?_) (fun h2 => ?_)
    · skip
      rw [if_pos (show y1.1 = 0 from h2)] at hp
      refine gm_p k_Md_out rfl rfl ?_
      cases hp
      exact gm_ret (v := some (.int _)) k_Md_out rfl rfl trivial rfl ⟨rfl, rfl⟩
    · skip
      rw [if_neg (show ¬ (y1.1 = 0) from h2)] at hp
      refine gm_p k_Md_out rfl rfl ?_
      refine gm_g k_Md_out rfl rfl rfl rfl ?_
      refine gm_p k_Md_out rfl rfl ?_
      by_cases g3 : gi v1 8 = true
      · rw [if_pos g3] at hp
        refine gm_ld k_Md_out rfl rfl (gi_in g3) (by decide) ?_
        refine gm_j k_Md_out rfl rfl ?_
        cases hp
        exact gm_ret (v := some (.int _)) k_Md_out rfl rfl trivial rfl ⟨rfl, rfl⟩
      · rw [if_neg g3] at hp
        cases hp
def sp_Md_stands  (v1 : Int32) (σ : gm_S) : Option (Int32 × gm_S) := (match sp_Md_isInstance  v1 ((upd σ.1 0 0), σ.2) with
  | none => none
  | some y1 => (if y1.1 = 0 then some ((-1), y1.2) else (if gi v1 8 = true then some (((y1.2.2 46) v1.toNatClampNeg), y1.2) else none)))
theorem c_sp_Md_stands  {v1 : Int32} {σ : gm_S} {r : Int32 × gm_S} (hp : sp_Md_stands  v1 σ = some r) : gm_Has l F (d + 2) m_Md_stands a A [.int v1] σ (fun w σ' => w = some (.int r.1) ∧ σ' = r.2) := by
  refine gm_meth (k := 0) (L := [some (.ref a), some (.int v1)]) pn_Md rfl (Nat.le_of_ble_eq_true rfl) ?_
  unfold sp_Md_stands at hp
  refine gm_p k_Md_stands rfl rfl ?_
  refine gm_p k_Md_stands rfl rfl ?_
  refine gm_pt k_Md_stands rfl rfl rfl trivial (by decide) rfl ?_
  refine gm_p k_Md_stands rfl rfl ?_
  refine gm_p k_Md_stands rfl rfl ?_
  cases hy1 : sp_Md_isInstance  v1 ((upd σ.1 0 0), σ.2) with
  | none =>
    rw [hy1] at hp
    cases hp
  | some y1 =>
    rw [hy1] at hp
    dsimp only at hp
    refine gm_ivB (M' := m_Md_isInstance) (As := [.int v1]) k_Md_stands rfl rfl rfl rfl rfl rfl (Nat.le_of_ble_eq_true rfl) (c_sp_Md_isInstance  hy1) (fun hby1 => ?_)
    refine gm_if k_Md_stands rfl rfl rfl (fun h2 => ?_) (fun h2 => ?_)
    · skip
      rw [if_pos (show y1.1 = 0 from h2)] at hp
      refine gm_p k_Md_stands rfl rfl ?_
      cases hp
      exact gm_ret (v := some (.int _)) k_Md_stands rfl rfl trivial rfl ⟨rfl, rfl⟩
    · skip
      rw [if_neg (show ¬ (y1.1 = 0) from h2)] at hp
      refine gm_p k_Md_stands rfl rfl ?_
      refine gm_g k_Md_stands rfl rfl rfl rfl ?_
      refine gm_p k_Md_stands rfl rfl ?_
      by_cases g3 : gi v1 8 = true
      · rw [if_pos g3] at hp
        refine gm_ld k_Md_stands rfl rfl (gi_in g3) (by decide) ?_
        refine gm_j k_Md_stands rfl rfl ?_
        cases hp
        exact gm_ret (v := some (.int _)) k_Md_stands rfl rfl trivial rfl ⟨rfl, rfl⟩
      · rw [if_neg g3] at hp
        cases hp
def sp_Md_ticks  (v1 : Int32) (σ : gm_S) : Option (Int32 × gm_S) := (match sp_Md_isInstance  v1 ((upd σ.1 0 0), σ.2) with
  | none => none
  | some y1 => (if y1.1 = 0 then some ((-1), y1.2) else (if gi v1 8 = true then some (((y1.2.2 48) v1.toNatClampNeg), y1.2) else none)))
theorem c_sp_Md_ticks  {v1 : Int32} {σ : gm_S} {r : Int32 × gm_S} (hp : sp_Md_ticks  v1 σ = some r) : gm_Has l F (d + 2) m_Md_ticks a A [.int v1] σ (fun w σ' => w = some (.int r.1) ∧ σ' = r.2) := by
  refine gm_meth (k := 0) (L := [some (.ref a), some (.int v1)]) pn_Md rfl (Nat.le_of_ble_eq_true rfl) ?_
  unfold sp_Md_ticks at hp
  refine gm_p k_Md_ticks rfl rfl ?_
  refine gm_p k_Md_ticks rfl rfl ?_
  refine gm_pt k_Md_ticks rfl rfl rfl trivial (by decide) rfl ?_
  refine gm_p k_Md_ticks rfl rfl ?_
  refine gm_p k_Md_ticks rfl rfl ?_
  cases hy1 : sp_Md_isInstance  v1 ((upd σ.1 0 0), σ.2) with
  | none =>
    rw [hy1] at hp
    cases hp
  | some y1 =>
    rw [hy1] at hp
    dsimp only at hp
    refine gm_ivB (M' := m_Md_isInstance) (As := [.int v1]) k_Md_ticks rfl rfl rfl rfl rfl rfl (Nat.le_of_ble_eq_true rfl) (c_sp_Md_isInstance  hy1) (fun hby1 => ?_)
    refine gm_if k_Md_ticks rfl rfl rfl (fun h2 => ?_) (fun h2 => ?_)
    · skip
      rw [if_pos (show y1.1 = 0 from h2)] at hp
      refine gm_p k_Md_ticks rfl rfl ?_
      cases hp
      exact gm_ret (v := some (.int _)) k_Md_ticks rfl rfl trivial rfl ⟨rfl, rfl⟩
    · skip
      rw [if_neg (show ¬ (y1.1 = 0) from h2)] at hp
      refine gm_p k_Md_ticks rfl rfl ?_
      refine gm_g k_Md_ticks rfl rfl rfl rfl ?_
      refine gm_p k_Md_ticks rfl rfl ?_
      by_cases g3 : gi v1 8 = true
      · rw [if_pos g3] at hp
        refine gm_ld k_Md_ticks rfl rfl (gi_in g3) (by decide) ?_
        refine gm_j k_Md_ticks rfl rfl ?_
        cases hp
        exact gm_ret (v := some (.int _)) k_Md_ticks rfl rfl trivial rfl ⟨rfl, rfl⟩
      · rw [if_neg g3] at hp
        cases hp
def sp_Md_isPart  (v1 : Int32) (v2 : Int32) (σ : gm_S) : Option (Int32 × gm_S) := (if gi v1 8 = true then (if v2 < ((σ.2 49) v1.toNatClampNeg) then some (0, σ) else (if gi (v1 + 1) 8 = true then (if ((σ.2 49) (v1 + 1).toNatClampNeg) ≤ v2 then some (0, σ) else some (1, σ)) else none)) else none)
theorem c_sp_Md_isPart  {v1 : Int32} {v2 : Int32} {σ : gm_S} {r : Int32 × gm_S} (hp : sp_Md_isPart  v1 v2 σ = some r) : gm_Has l F (d) m_Md_isPart a A [.int v1, .int v2] σ (fun w σ' => w = some (.int r.1) ∧ σ' = r.2) := by
  refine gm_meth (k := 0) (L := [some (.ref a), some (.int v1), some (.int v2)]) pn_Md rfl (Nat.le_of_ble_eq_true rfl) ?_
  unfold sp_Md_isPart at hp
  refine gm_p k_Md_isPart rfl rfl ?_
  refine gm_p k_Md_isPart rfl rfl ?_
  refine gm_g k_Md_isPart rfl rfl rfl rfl ?_
  refine gm_p k_Md_isPart rfl rfl ?_
  by_cases g1 : gi v1 8 = true
  · rw [if_pos g1] at hp
    refine gm_ld k_Md_isPart rfl rfl (gi_in g1) (by decide) ?_
    refine gm_ic k_Md_isPart rfl rfl rfl (fun h2 => ?_) (fun h2 => ?_)
    · skip
      rw [if_pos (show v2 < ((σ.2 49) v1.toNatClampNeg) from h2)] at hp
      refine gm_p k_Md_isPart rfl rfl ?_
      cases hp
      exact gm_ret (v := some (.int _)) k_Md_isPart rfl rfl (Or.inl rfl) rfl ⟨rfl, rfl⟩
    · skip
      rw [if_neg (show ¬ (v2 < ((σ.2 49) v1.toNatClampNeg)) from h2)] at hp
      refine gm_p k_Md_isPart rfl rfl ?_
      refine gm_p k_Md_isPart rfl rfl ?_
      refine gm_g k_Md_isPart rfl rfl rfl rfl ?_
      refine gm_p k_Md_isPart rfl rfl ?_
      refine gm_p k_Md_isPart rfl rfl ?_
      refine gm_p k_Md_isPart rfl rfl ?_
      by_cases g3 : gi (v1 + 1) 8 = true
      · rw [if_pos g3] at hp
        refine gm_ld k_Md_isPart rfl rfl (gi_in g3) (by decide) ?_
        refine gm_ic k_Md_isPart rfl rfl rfl (fun h4 => ?_) (fun h4 => ?_)
        · skip
          rw [if_pos (show ((σ.2 49) (v1 + 1).toNatClampNeg) ≤ v2 from h4)] at hp
          refine gm_p k_Md_isPart rfl rfl ?_
          cases hp
          exact gm_ret (v := some (.int _)) k_Md_isPart rfl rfl (Or.inl rfl) rfl ⟨rfl, rfl⟩
        · skip
          rw [if_neg (show ¬ (((σ.2 49) (v1 + 1).toNatClampNeg) ≤ v2) from h4)] at hp
          refine gm_p k_Md_isPart rfl rfl ?_
          refine gm_j k_Md_isPart rfl rfl ?_
          cases hp
          exact gm_ret (v := some (.int _)) k_Md_isPart rfl rfl (Or.inr rfl) rfl ⟨rfl, rfl⟩
      · rw [if_neg g3] at hp
        cases hp
  · rw [if_neg g1] at hp
    cases hp
def sp_Md_canStand_65  (kk2 : Int32 → Int32 → Int32 → gm_S → Option (Int32 × gm_S)) : Nat → Int32 → Int32 → Int32 → Int32 → Int32 → gm_S → Option (Int32 × gm_S)
  | 0, _, _, _, _, _, _ => none
  | m + 1, v1, v2, v3, v4, v5, σ => (if v5 = (-1) then (if v4 ≤ 1 then kk2 v1 v2 (v3 + 1) σ else some (0, σ)) else (if gi v5 2600 = true then (if (((σ.2 25) v5.toNatClampNeg) &&& v2) = 0 then sp_Md_canStand_65  kk2 m v1 v2 v3 (v4 + 0) ((σ.2 24) v5.toNatClampNeg) σ else sp_Md_canStand_65  kk2 m v1 v2 v3 (v4 + 1) ((σ.2 24) v5.toNatClampNeg) σ) else none))
theorem c_sp_Md_canStand_65  {kk2 : Int32 → Int32 → Int32 → gm_S → Option (Int32 × gm_S)} {r : Int32 × gm_S} (hkk2 : ∀ (v1 : Int32) (v2 : Int32) (v3 : Int32) (σ : gm_S), kk2 v1 v2 v3 σ = some r → ∀ x4 x5 : Option Value, gm_Go l F (d + 1) m_Md_canStand a A 2 ([some (.ref a), some (.int v1), some (.int v2), some (.int v3), x4, x5]) [] σ (fun w σ' => w = some (.int r.1) ∧ σ' = r.2)) : ∀ (m : Nat) (v1 : Int32) (v2 : Int32) (v3 : Int32) (v4 : Int32) (v5 : Int32) (σ : gm_S), sp_Md_canStand_65  kk2 m v1 v2 v3 v4 v5 σ = some r → gm_Go l F (d + 1) m_Md_canStand a A 65 ([some (.ref a), some (.int v1), some (.int v2), some (.int v3), some (.int v4), some (.int v5)]) [] σ (fun w σ' => w = some (.int r.1) ∧ σ' = r.2) := by
  intro m
  induction m with
  | zero => intro v1 v2 v3 v4 v5 σ hp; cases hp
  | succ m ihm =>
    intro v1 v2 v3 v4 v5 σ hp
    unfold sp_Md_canStand_65 at hp
    refine gm_p k_Md_canStand rfl rfl ?_
    refine gm_p k_Md_canStand rfl rfl ?_
    refine gm_ic k_Md_canStand rfl rfl rfl (fun h7 => ?_) (fun h7 => ?_)
    · skip
      rw [if_pos (show v5 = (-1) from h7)] at hp
      refine gm_p k_Md_canStand rfl rfl ?_
      refine gm_p k_Md_canStand rfl rfl ?_
      refine gm_ic k_Md_canStand rfl rfl rfl (fun h8 => ?_) (fun h8 => ?_)
      · skip
        rw [if_pos (show v4 ≤ 1 from h8)] at hp
        refine gm_p (L' := [some (.ref a), some (.int v1), some (.int v2), some (.int (v3 + 1)), some (.int v4), some (.int v5)]) (st' := []) k_Md_canStand rfl rfl ?_
        refine gm_j k_Md_canStand rfl rfl ?_
        exact hkk2 _ _ _ _ hp _ _
      · skip
        rw [if_neg (show ¬ (v4 ≤ 1) from h8)] at hp
        refine gm_p k_Md_canStand rfl rfl ?_
        cases hp
        exact gm_ret (v := some (.int _)) k_Md_canStand rfl rfl (Or.inl rfl) rfl ⟨rfl, rfl⟩
    · skip
      rw [if_neg (show ¬ (v5 = (-1)) from h7)] at hp
      refine gm_p k_Md_canStand rfl rfl ?_
      refine gm_p k_Md_canStand rfl rfl ?_
      refine gm_g k_Md_canStand rfl rfl rfl rfl ?_
      refine gm_p k_Md_canStand rfl rfl ?_
      by_cases g9 : gi v5 2600 = true
      · rw [if_pos g9] at hp
        refine gm_ld k_Md_canStand rfl rfl (gi_in g9) (by decide) ?_
        refine gm_p k_Md_canStand rfl rfl ?_
        refine gm_p k_Md_canStand rfl rfl ?_
        refine gm_if k_Md_canStand rfl rfl rfl (fun h10 => ?_) (fun h10 => ?_)
        · skip
          rw [if_pos (show (((σ.2 25) v5.toNatClampNeg) &&& v2) = 0 from h10)] at hp
          refine gm_p k_Md_canStand rfl rfl ?_
          refine gm_p k_Md_canStand rfl rfl ?_
          refine gm_p (L' := [some (.ref a), some (.int v1), some (.int v2), some (.int v3), some (.int (v4 + 0)), some (.int v5)]) (st' := []) k_Md_canStand rfl rfl ?_
          refine gm_p k_Md_canStand rfl rfl ?_
          refine gm_g k_Md_canStand rfl rfl rfl rfl ?_
          refine gm_p k_Md_canStand rfl rfl ?_
          refine gm_ld k_Md_canStand rfl rfl (gi_in g9) (by decide) ?_
          refine gm_p (L' := [some (.ref a), some (.int v1), some (.int v2), some (.int v3), some (.int (v4 + 0)), some (.int ((σ.2 24) v5.toNatClampNeg))]) (st' := []) k_Md_canStand rfl rfl ?_
          refine gm_j k_Md_canStand rfl rfl ?_
          exact ihm _ _ _ _ _ _ hp
        · skip
          rw [if_neg (show ¬ ((((σ.2 25) v5.toNatClampNeg) &&& v2) = 0) from h10)] at hp
          refine gm_p k_Md_canStand rfl rfl ?_
          refine gm_j k_Md_canStand rfl rfl ?_
          refine gm_p k_Md_canStand rfl rfl ?_
          refine gm_p (L' := [some (.ref a), some (.int v1), some (.int v2), some (.int v3), some (.int (v4 + 1)), some (.int v5)]) (st' := []) k_Md_canStand rfl rfl ?_
          refine gm_p k_Md_canStand rfl rfl ?_
          refine gm_g k_Md_canStand rfl rfl rfl rfl ?_
          refine gm_p k_Md_canStand rfl rfl ?_
          refine gm_ld k_Md_canStand rfl rfl (gi_in g9) (by decide) ?_
          refine gm_p (L' := [some (.ref a), some (.int v1), some (.int v2), some (.int v3), some (.int (v4 + 1)), some (.int ((σ.2 24) v5.toNatClampNeg))]) (st' := []) k_Md_canStand rfl rfl ?_
          refine gm_j k_Md_canStand rfl rfl ?_
          exact ihm _ _ _ _ _ _ hp
      · rw [if_neg g9] at hp
        cases hp
def sp_Md_canStand_2   : Nat → Int32 → Int32 → Int32 → gm_S → Option (Int32 × gm_S)
  | 0, _, _, _, _ => none
  | m + 1, v1, v2, v3, σ => (if (σ.1 19) ≤ v3 then some (1, σ) else (if gi v3 2600 = true then (if ((σ.2 20) v3.toNatClampNeg) = 9 then (if (((σ.2 25) v3.toNatClampNeg) &&& v2) = 0 then sp_Md_canStand_2   m v1 v2 (v3 + 1) σ else (match sp_Md_isPart  v1 v3 σ with
  | none => none
  | some y5 => (if y5.1 = 0 then sp_Md_canStand_2   m v1 v2 (v3 + 1) y5.2 else sp_Md_canStand_65  (sp_Md_canStand_2   m) 2601 v1 v2 v3 0 ((y5.2.2 23) v3.toNatClampNeg) y5.2))) else (if ((σ.2 20) v3.toNatClampNeg) = 3 then (if (((σ.2 25) v3.toNatClampNeg) &&& v2) = 0 then sp_Md_canStand_2   m v1 v2 (v3 + 1) σ else (match sp_Md_isPart  v1 v3 σ with
  | none => none
  | some y13 => (if y13.1 = 0 then sp_Md_canStand_2   m v1 v2 (v3 + 1) y13.2 else sp_Md_canStand_65  (sp_Md_canStand_2   m) 2601 v1 v2 v3 0 ((y13.2.2 23) v3.toNatClampNeg) y13.2))) else sp_Md_canStand_2   m v1 v2 (v3 + 1) σ)) else none))
theorem c_sp_Md_canStand_2  {r : Int32 × gm_S} : ∀ (m : Nat) (v1 : Int32) (v2 : Int32) (v3 : Int32) (σ : gm_S), sp_Md_canStand_2   m v1 v2 v3 σ = some r → ∀ x4 x5 : Option Value, gm_Go l F (d + 1) m_Md_canStand a A 2 ([some (.ref a), some (.int v1), some (.int v2), some (.int v3), x4, x5]) [] σ (fun w σ' => w = some (.int r.1) ∧ σ' = r.2) := by
  intro m
  induction m with
  | zero => intro v1 v2 v3 σ hp; cases hp
  | succ m ihm =>
    intro v1 v2 v3 σ hp x4 x5
    unfold sp_Md_canStand_2 at hp
    refine gm_p k_Md_canStand rfl rfl ?_
    refine gm_p k_Md_canStand rfl rfl ?_
    refine gm_g k_Md_canStand rfl rfl rfl rfl ?_
    refine gm_ic k_Md_canStand rfl rfl rfl (fun h1 => ?_) (fun h1 => ?_)
    · skip
      rw [if_pos (show (σ.1 19) ≤ v3 from h1)] at hp
      refine gm_p k_Md_canStand rfl rfl ?_
      cases hp
      exact gm_ret (v := some (.int _)) k_Md_canStand rfl rfl (Or.inr rfl) rfl ⟨rfl, rfl⟩
    · skip
      rw [if_neg (show ¬ ((σ.1 19) ≤ v3) from h1)] at hp
      refine gm_p k_Md_canStand rfl rfl ?_
      refine gm_g k_Md_canStand rfl rfl rfl rfl ?_
      refine gm_p k_Md_canStand rfl rfl ?_
      by_cases g2 : gi v3 2600 = true
      · rw [if_pos g2] at hp
        refine gm_ld k_Md_canStand rfl rfl (gi_in g2) (by decide) ?_
        refine gm_p k_Md_canStand rfl rfl ?_
        refine gm_ic k_Md_canStand rfl rfl rfl (fun h3 => ?_) (fun h3 => ?_)
        · skip
          rw [if_pos (show ((σ.2 20) v3.toNatClampNeg) = 9 from h3)] at hp
          refine gm_p k_Md_canStand rfl rfl ?_
          refine gm_g k_Md_canStand rfl rfl rfl rfl ?_
          refine gm_p k_Md_canStand rfl rfl ?_
          refine gm_ld k_Md_canStand rfl rfl (gi_in g2) (by decide) ?_
          refine gm_p k_Md_canStand rfl rfl ?_
          refine gm_p k_Md_canStand rfl rfl ?_
          refine gm_if k_Md_canStand rfl rfl rfl (fun h4 => ?_) (fun h4 => ?_)
          · skip
            rw [if_pos (show (((σ.2 25) v3.toNatClampNeg) &&& v2) = 0 from h4)] at hp
            refine gm_p (L' := [some (.ref a), some (.int v1), some (.int v2), some (.int (v3 + 1)), x4, x5]) (st' := []) k_Md_canStand rfl rfl ?_
            refine gm_j k_Md_canStand rfl rfl ?_
            exact ihm _ _ _ _ hp _ _
          · skip
            rw [if_neg (show ¬ ((((σ.2 25) v3.toNatClampNeg) &&& v2) = 0) from h4)] at hp
            refine gm_p k_Md_canStand rfl rfl ?_
            refine gm_p k_Md_canStand rfl rfl ?_
            refine gm_p k_Md_canStand rfl rfl ?_
            cases hy5 : sp_Md_isPart  v1 v3 σ with
            | none =>
              rw [hy5] at hp
              cases hp
            | some y5 =>
              rw [hy5] at hp
              dsimp only at hp
              refine gm_ivB (M' := m_Md_isPart) (As := [.int v1, .int v3]) k_Md_canStand rfl rfl rfl rfl rfl rfl (Nat.le_of_ble_eq_true rfl) (c_sp_Md_isPart  hy5) (fun hby5 => ?_)
              refine gm_if k_Md_canStand rfl rfl rfl (fun h6 => ?_) (fun h6 => ?_)
              · skip
                rw [if_neg (show ¬ (y5.1 = 0) from h6)] at hp
                refine gm_p k_Md_canStand rfl rfl ?_
                refine gm_p (L' := [some (.ref a), some (.int v1), some (.int v2), some (.int v3), some (.int 0), x5]) (st' := []) k_Md_canStand rfl rfl ?_
                refine gm_p k_Md_canStand rfl rfl ?_
                refine gm_g k_Md_canStand rfl rfl rfl rfl ?_
                refine gm_p k_Md_canStand rfl rfl ?_
                refine gm_ld k_Md_canStand rfl rfl (gi_in g2) (by decide) ?_
                refine gm_p (L' := [some (.ref a), some (.int v1), some (.int v2), some (.int v3), some (.int 0), some (.int ((y5.2.2 23) v3.toNatClampNeg))]) (st' := []) k_Md_canStand rfl rfl ?_
                exact c_sp_Md_canStand_65  (fun _ _ _ _ h => ihm _ _ _ _ h) _ _ _ _ _ _ _ hp
              · skip
                rw [if_pos (show y5.1 = 0 from h6)] at hp
                refine gm_j k_Md_canStand rfl rfl ?_
                refine gm_p (L' := [some (.ref a), some (.int v1), some (.int v2), some (.int (v3 + 1)), x4, x5]) (st' := []) k_Md_canStand rfl rfl ?_
                refine gm_j k_Md_canStand rfl rfl ?_
                exact ihm _ _ _ _ hp _ _
        · skip
          rw [if_neg (show ¬ (((σ.2 20) v3.toNatClampNeg) = 9) from h3)] at hp
          refine gm_p k_Md_canStand rfl rfl ?_
          refine gm_g k_Md_canStand rfl rfl rfl rfl ?_
          refine gm_p k_Md_canStand rfl rfl ?_
          refine gm_ld k_Md_canStand rfl rfl (gi_in g2) (by decide) ?_
          refine gm_p k_Md_canStand rfl rfl ?_
          refine gm_ic k_Md_canStand rfl rfl rfl (fun h11 => ?_) (fun h11 => ?_)
          · skip
            rw [if_neg (show ¬ (((σ.2 20) v3.toNatClampNeg) = 3) from h11)] at hp
            refine gm_p (L' := [some (.ref a), some (.int v1), some (.int v2), some (.int (v3 + 1)), x4, x5]) (st' := []) k_Md_canStand rfl rfl ?_
            refine gm_j k_Md_canStand rfl rfl ?_
            exact ihm _ _ _ _ hp _ _
          · skip
            rw [if_pos (show ((σ.2 20) v3.toNatClampNeg) = 3 from h11)] at hp
            refine gm_p k_Md_canStand rfl rfl ?_
            refine gm_g k_Md_canStand rfl rfl rfl rfl ?_
            refine gm_p k_Md_canStand rfl rfl ?_
            refine gm_ld k_Md_canStand rfl rfl (gi_in g2) (by decide) ?_
            refine gm_p k_Md_canStand rfl rfl ?_
            refine gm_p k_Md_canStand rfl rfl ?_
            refine gm_if k_Md_canStand rfl rfl rfl (fun h12 => ?_) (fun h12 => ?_)
            · skip
              rw [if_pos (show (((σ.2 25) v3.toNatClampNeg) &&& v2) = 0 from h12)] at hp
              refine gm_p (L' := [some (.ref a), some (.int v1), some (.int v2), some (.int (v3 + 1)), x4, x5]) (st' := []) k_Md_canStand rfl rfl ?_
              refine gm_j k_Md_canStand rfl rfl ?_
              exact ihm _ _ _ _ hp _ _
            · skip
              rw [if_neg (show ¬ ((((σ.2 25) v3.toNatClampNeg) &&& v2) = 0) from h12)] at hp
              refine gm_p k_Md_canStand rfl rfl ?_
              refine gm_p k_Md_canStand rfl rfl ?_
              refine gm_p k_Md_canStand rfl rfl ?_
              cases hy13 : sp_Md_isPart  v1 v3 σ with
              | none =>
                rw [hy13] at hp
                cases hp
              | some y13 =>
                rw [hy13] at hp
                dsimp only at hp
                refine gm_ivB (M' := m_Md_isPart) (As := [.int v1, .int v3]) k_Md_canStand rfl rfl rfl rfl rfl rfl (Nat.le_of_ble_eq_true rfl) (c_sp_Md_isPart  hy13) (fun hby13 => ?_)
                refine gm_if k_Md_canStand rfl rfl rfl (fun h14 => ?_) (fun h14 => ?_)
                · skip
                  rw [if_neg (show ¬ (y13.1 = 0) from h14)] at hp
                  refine gm_p k_Md_canStand rfl rfl ?_
                  refine gm_p (L' := [some (.ref a), some (.int v1), some (.int v2), some (.int v3), some (.int 0), x5]) (st' := []) k_Md_canStand rfl rfl ?_
                  refine gm_p k_Md_canStand rfl rfl ?_
                  refine gm_g k_Md_canStand rfl rfl rfl rfl ?_
                  refine gm_p k_Md_canStand rfl rfl ?_
                  refine gm_ld k_Md_canStand rfl rfl (gi_in g2) (by decide) ?_
                  refine gm_p (L' := [some (.ref a), some (.int v1), some (.int v2), some (.int v3), some (.int 0), some (.int ((y13.2.2 23) v3.toNatClampNeg))]) (st' := []) k_Md_canStand rfl rfl ?_
                  exact c_sp_Md_canStand_65  (fun _ _ _ _ h => ihm _ _ _ _ h) _ _ _ _ _ _ _ hp
                · skip
                  rw [if_pos (show y13.1 = 0 from h14)] at hp
                  refine gm_j k_Md_canStand rfl rfl ?_
                  refine gm_p (L' := [some (.ref a), some (.int v1), some (.int v2), some (.int (v3 + 1)), x4, x5]) (st' := []) k_Md_canStand rfl rfl ?_
                  refine gm_j k_Md_canStand rfl rfl ?_
                  exact ihm _ _ _ _ hp _ _
      · rw [if_neg g2] at hp
        cases hp
def sp_Md_canStand  (v1 : Int32) (v2 : Int32) (σ : gm_S) : Option (Int32 × gm_S) := sp_Md_canStand_2   2601 v1 v2 0 σ
theorem c_sp_Md_canStand  {v1 : Int32} {v2 : Int32} {σ : gm_S} {r : Int32 × gm_S} (hp : sp_Md_canStand  v1 v2 σ = some r) : gm_Has l F (d + 1) m_Md_canStand a A [.int v1, .int v2] σ (fun w σ' => w = some (.int r.1) ∧ σ' = r.2) := by
  refine gm_meth (k := 3) (L := [some (.ref a), some (.int v1), some (.int v2), none, none, none]) pn_Md rfl (Nat.le_of_ble_eq_true rfl) ?_
  unfold sp_Md_canStand at hp
  refine gm_p k_Md_canStand rfl rfl ?_
  refine gm_p (L' := [some (.ref a), some (.int v1), some (.int v2), some (.int 0), none, none]) (st' := []) k_Md_canStand rfl rfl ?_
  exact c_sp_Md_canStand_2   _ _ _ _ _ hp _ _
def sp_Md_back  (v1 : Int32) (v2 : Int32) (σ : gm_S) : Option (Int32 × gm_S) := (match sp_Md_isInstance  v1 ((upd σ.1 0 0), σ.2) with
  | none => none
  | some y1 => (if y1.1 = 0 then some (0, y1.2) else (if gi v1 8 = true then (if v2 = (-2) then some (1, (y1.2.1, (gm_up y1.2.2 46 (upd (y1.2.2 46) v1.toNatClampNeg v2)))) else (if v2 = (-3) then some (1, (y1.2.1, (gm_up y1.2.2 46 (upd (y1.2.2 46) v1.toNatClampNeg v2)))) else (if v2 ≤ 0 then some (0, y1.2) else (if gi ((y1.2.2 45) v1.toNatClampNeg) 7 = true then (if (31 : Int32) ≤ ((y1.2.2 17) ((y1.2.2 45) v1.toNatClampNeg).toNatClampNeg) then (match sp_Md_canStand  ((y1.2.2 45) v1.toNatClampNeg) v2 y1.2 with
  | none => none
  | some y9 => (if y9.1 = 0 then some (0, y9.2) else some (1, (y9.2.1, (gm_up y9.2.2 46 (upd (y9.2.2 46) v1.toNatClampNeg v2)))))) else (if (v2 >>> (((y1.2.2 17) ((y1.2.2 45) v1.toNatClampNeg).toNatClampNeg) &&& 31)) = 0 then (match sp_Md_canStand  ((y1.2.2 45) v1.toNatClampNeg) v2 y1.2 with
  | none => none
  | some y12 => (if y12.1 = 0 then some (0, y12.2) else some (1, (y12.2.1, (gm_up y12.2.2 46 (upd (y12.2.2 46) v1.toNatClampNeg v2)))))) else some (0, y1.2))) else none)))) else none)))
theorem c_sp_Md_back  {v1 : Int32} {v2 : Int32} {σ : gm_S} {r : Int32 × gm_S} (hp : sp_Md_back  v1 v2 σ = some r) : gm_Has l F (d + 2) m_Md_back a A [.int v1, .int v2] σ (fun w σ' => w = some (.int r.1) ∧ σ' = r.2) := by
  refine gm_meth (k := 1) (L := [some (.ref a), some (.int v1), some (.int v2), none]) pn_Md rfl (Nat.le_of_ble_eq_true rfl) ?_
  unfold sp_Md_back at hp
  refine gm_p k_Md_back rfl rfl ?_
  refine gm_p k_Md_back rfl rfl ?_
  refine gm_pt k_Md_back rfl rfl rfl trivial (by decide) rfl ?_
  refine gm_p k_Md_back rfl rfl ?_
  refine gm_p k_Md_back rfl rfl ?_
  cases hy1 : sp_Md_isInstance  v1 ((upd σ.1 0 0), σ.2) with
  | none =>
    rw [hy1] at hp
    cases hp
  | some y1 =>
    rw [hy1] at hp
    dsimp only at hp
    refine gm_ivB (M' := m_Md_isInstance) (As := [.int v1]) k_Md_back rfl rfl rfl rfl rfl rfl (Nat.le_of_ble_eq_true rfl) (c_sp_Md_isInstance  hy1) (fun hby1 => ?_)
    refine gm_if k_Md_back rfl rfl rfl (fun h2 => ?_) (fun h2 => ?_)
    · skip
      rw [if_neg (show ¬ (y1.1 = 0) from h2)] at hp
      refine gm_p k_Md_back rfl rfl ?_
      refine gm_g k_Md_back rfl rfl rfl rfl ?_
      refine gm_p k_Md_back rfl rfl ?_
      by_cases g3 : gi v1 8 = true
      · rw [if_pos g3] at hp
        refine gm_ld k_Md_back rfl rfl (gi_in g3) (by decide) ?_
        refine gm_p (L' := [some (.ref a), some (.int v1), some (.int v2), some (.int ((y1.2.2 45) v1.toNatClampNeg))]) (st' := []) k_Md_back rfl rfl ?_
        refine gm_p k_Md_back rfl rfl ?_
        refine gm_p k_Md_back rfl rfl ?_
        refine gm_ic k_Md_back rfl rfl rfl (fun h4 => ?_) (fun h4 => ?_)
        · skip
          rw [if_pos (show v2 = (-2) from h4)] at hp
          refine gm_p k_Md_back rfl rfl ?_
          refine gm_g k_Md_back rfl rfl rfl rfl ?_
          refine gm_p k_Md_back rfl rfl ?_
          refine gm_p k_Md_back rfl rfl ?_
          refine gm_sto k_Md_back rfl rfl (gi_in g3) (by decide) ?_
          refine gm_p k_Md_back rfl rfl ?_
          cases hp
          exact gm_ret (v := some (.int _)) k_Md_back rfl rfl (Or.inr rfl) rfl ⟨rfl, rfl⟩
        · skip
          rw [if_neg (show ¬ (v2 = (-2)) from h4)] at hp
          refine gm_p k_Md_back rfl rfl ?_
          refine gm_p k_Md_back rfl rfl ?_
          refine gm_ic k_Md_back rfl rfl rfl (fun h5 => ?_) (fun h5 => ?_)
          · skip
            rw [if_pos (show v2 = (-3) from h5)] at hp
            refine gm_p k_Md_back rfl rfl ?_
            refine gm_g k_Md_back rfl rfl rfl rfl ?_
            refine gm_p k_Md_back rfl rfl ?_
            refine gm_p k_Md_back rfl rfl ?_
            refine gm_sto k_Md_back rfl rfl (gi_in g3) (by decide) ?_
            refine gm_p k_Md_back rfl rfl ?_
            cases hp
            exact gm_ret (v := some (.int _)) k_Md_back rfl rfl (Or.inr rfl) rfl ⟨rfl, rfl⟩
          · skip
            rw [if_neg (show ¬ (v2 = (-3)) from h5)] at hp
            refine gm_p k_Md_back rfl rfl ?_
            refine gm_if k_Md_back rfl rfl rfl (fun h6 => ?_) (fun h6 => ?_)
            · skip
              rw [if_pos (show v2 ≤ 0 from h6)] at hp
              refine gm_p k_Md_back rfl rfl ?_
              cases hp
              exact gm_ret (v := some (.int _)) k_Md_back rfl rfl (Or.inl rfl) rfl ⟨rfl, rfl⟩
            · skip
              rw [if_neg (show ¬ (v2 ≤ 0) from h6)] at hp
              refine gm_p k_Md_back rfl rfl ?_
              refine gm_g k_Md_back rfl rfl rfl rfl ?_
              refine gm_p k_Md_back rfl rfl ?_
              by_cases g7 : gi ((y1.2.2 45) v1.toNatClampNeg) 7 = true
              · rw [if_pos g7] at hp
                refine gm_ld k_Md_back rfl rfl (gi_in g7) (by decide) ?_
                refine gm_p k_Md_back rfl rfl ?_
                refine gm_ic k_Md_back rfl rfl rfl (fun h8 => ?_) (fun h8 => ?_)
                · skip
                  rw [if_pos (show (31 : Int32) ≤ ((y1.2.2 17) ((y1.2.2 45) v1.toNatClampNeg).toNatClampNeg) from h8)] at hp
                  refine gm_p k_Md_back rfl rfl ?_
                  refine gm_p k_Md_back rfl rfl ?_
                  refine gm_p k_Md_back rfl rfl ?_
                  cases hy9 : sp_Md_canStand  ((y1.2.2 45) v1.toNatClampNeg) v2 y1.2 with
                  | none =>
                    rw [hy9] at hp
                    cases hp
                  | some y9 =>
                    rw [hy9] at hp
                    dsimp only at hp
                    refine gm_ivB (M' := m_Md_canStand) (As := [.int ((y1.2.2 45) v1.toNatClampNeg), .int v2]) k_Md_back rfl rfl rfl rfl rfl rfl (Nat.le_of_ble_eq_true rfl) (c_sp_Md_canStand  hy9) (fun hby9 => ?_)
                    refine gm_if k_Md_back rfl rfl rfl (fun h10 => ?_) (fun h10 => ?_)
                    · skip
                      rw [if_neg (show ¬ (y9.1 = 0) from h10)] at hp
                      refine gm_p k_Md_back rfl rfl ?_
                      refine gm_g k_Md_back rfl rfl rfl rfl ?_
                      refine gm_p k_Md_back rfl rfl ?_
                      refine gm_p k_Md_back rfl rfl ?_
                      refine gm_sto k_Md_back rfl rfl (gi_in g3) (by decide) ?_
                      refine gm_p k_Md_back rfl rfl ?_
                      cases hp
                      exact gm_ret (v := some (.int _)) k_Md_back rfl rfl (Or.inr rfl) rfl ⟨rfl, rfl⟩
                    · skip
                      rw [if_pos (show y9.1 = 0 from h10)] at hp
                      refine gm_p k_Md_back rfl rfl ?_
                      cases hp
                      exact gm_ret (v := some (.int _)) k_Md_back rfl rfl (Or.inl rfl) rfl ⟨rfl, rfl⟩
                · skip
                  rw [if_neg (show ¬ ((31 : Int32) ≤ ((y1.2.2 17) ((y1.2.2 45) v1.toNatClampNeg).toNatClampNeg)) from h8)] at hp
                  refine gm_p k_Md_back rfl rfl ?_
                  refine gm_p k_Md_back rfl rfl ?_
                  refine gm_g k_Md_back rfl rfl rfl rfl ?_
                  refine gm_p k_Md_back rfl rfl ?_
                  refine gm_ld k_Md_back rfl rfl (gi_in g7) (by decide) ?_
                  refine gm_p k_Md_back rfl rfl ?_
                  refine gm_if k_Md_back rfl rfl rfl (fun h11 => ?_) (fun h11 => ?_)
                  · skip
                    rw [if_neg (show ¬ ((v2 >>> (((y1.2.2 17) ((y1.2.2 45) v1.toNatClampNeg).toNatClampNeg) &&& 31)) = 0) from h11)] at hp
                    refine gm_p k_Md_back rfl rfl ?_
                    cases hp
                    exact gm_ret (v := some (.int _)) k_Md_back rfl rfl (Or.inl rfl) rfl ⟨rfl, rfl⟩
                  · skip
                    rw [if_pos (show (v2 >>> (((y1.2.2 17) ((y1.2.2 45) v1.toNatClampNeg).toNatClampNeg) &&& 31)) = 0 from h11)] at hp
                    refine gm_p k_Md_back rfl rfl ?_
                    refine gm_p k_Md_back rfl rfl ?_
                    refine gm_p k_Md_back rfl rfl ?_
                    cases hy12 : sp_Md_canStand  ((y1.2.2 45) v1.toNatClampNeg) v2 y1.2 with
                    | none =>
                      rw [hy12] at hp
                      cases hp
                    | some y12 =>
                      rw [hy12] at hp
                      dsimp only at hp
                      refine gm_ivB (M' := m_Md_canStand) (As := [.int ((y1.2.2 45) v1.toNatClampNeg), .int v2]) k_Md_back rfl rfl rfl rfl rfl rfl (Nat.le_of_ble_eq_true rfl) (c_sp_Md_canStand  hy12) (fun hby12 => ?_)
                      refine gm_if k_Md_back rfl rfl rfl (fun h13 => ?_) (fun h13 => ?_)
                      · skip
                        rw [if_neg (show ¬ (y12.1 = 0) from h13)] at hp
                        refine gm_p k_Md_back rfl rfl ?_
                        refine gm_g k_Md_back rfl rfl rfl rfl ?_
                        refine gm_p k_Md_back rfl rfl ?_
                        refine gm_p k_Md_back rfl rfl ?_
                        refine gm_sto k_Md_back rfl rfl (gi_in g3) (by decide) ?_
                        refine gm_p k_Md_back rfl rfl ?_
                        cases hp
                        exact gm_ret (v := some (.int _)) k_Md_back rfl rfl (Or.inr rfl) rfl ⟨rfl, rfl⟩
                      · skip
                        rw [if_pos (show y12.1 = 0 from h13)] at hp
                        refine gm_p k_Md_back rfl rfl ?_
                        cases hp
                        exact gm_ret (v := some (.int _)) k_Md_back rfl rfl (Or.inl rfl) rfl ⟨rfl, rfl⟩
              · rw [if_neg g7] at hp
                cases hp
      · rw [if_neg g3] at hp
        cases hp
    · skip
      rw [if_pos (show y1.1 = 0 from h2)] at hp
      refine gm_p k_Md_back rfl rfl ?_
      cases hp
      exact gm_ret (v := some (.int _)) k_Md_back rfl rfl (Or.inl rfl) rfl ⟨rfl, rfl⟩
def sp_Md_total  (v1 : Int32) (σ : gm_S) : Option (Int32 × gm_S) := (if v1 = 0 then (if (σ.1 7) = 0 then some (0, ((upd σ.1 0 0), σ.2)) else some ((σ.1 10), ((upd σ.1 0 0), σ.2))) else (if v1 = 1 then some ((σ.1 1), ((upd σ.1 0 0), σ.2)) else (if v1 = 2 then some ((σ.1 44), ((upd σ.1 0 0), σ.2)) else some ((-1), ((upd σ.1 0 0), σ.2)))))
theorem c_sp_Md_total  {v1 : Int32} {σ : gm_S} {r : Int32 × gm_S} (hp : sp_Md_total  v1 σ = some r) : gm_Has l F (d) m_Md_total a A [.int v1] σ (fun w σ' => w = some (.int r.1) ∧ σ' = r.2) := by
  refine gm_meth (k := 0) (L := [some (.ref a), some (.int v1)]) pn_Md rfl (Nat.le_of_ble_eq_true rfl) ?_
  unfold sp_Md_total at hp
  refine gm_p k_Md_total rfl rfl ?_
  refine gm_p k_Md_total rfl rfl ?_
  refine gm_pt k_Md_total rfl rfl rfl trivial (by decide) rfl ?_
  refine gm_p k_Md_total rfl rfl ?_
  refine gm_if k_Md_total rfl rfl rfl (fun h1 => ?_) (fun h1 => ?_)
  · skip
    rw [if_neg (show ¬ (v1 = 0) from h1)] at hp
    refine gm_p k_Md_total rfl rfl ?_
    refine gm_p k_Md_total rfl rfl ?_
    refine gm_ic k_Md_total rfl rfl rfl (fun h2 => ?_) (fun h2 => ?_)
    · skip
      rw [if_neg (show ¬ (v1 = 1) from h2)] at hp
      refine gm_p k_Md_total rfl rfl ?_
      refine gm_p k_Md_total rfl rfl ?_
      refine gm_ic k_Md_total rfl rfl rfl (fun h3 => ?_) (fun h3 => ?_)
      · skip
        rw [if_neg (show ¬ (v1 = 2) from h3)] at hp
        refine gm_p k_Md_total rfl rfl ?_
        cases hp
        exact gm_ret (v := some (.int _)) k_Md_total rfl rfl trivial rfl ⟨rfl, rfl⟩
      · skip
        rw [if_pos (show v1 = 2 from h3)] at hp
        refine gm_p k_Md_total rfl rfl ?_
        refine gm_g k_Md_total rfl rfl rfl rfl ?_
        refine gm_j k_Md_total rfl rfl ?_
        cases hp
        exact gm_ret (v := some (.int _)) k_Md_total rfl rfl trivial rfl ⟨rfl, rfl⟩
    · skip
      rw [if_pos (show v1 = 1 from h2)] at hp
      refine gm_p k_Md_total rfl rfl ?_
      refine gm_g k_Md_total rfl rfl rfl rfl ?_
      refine gm_j k_Md_total rfl rfl ?_
      cases hp
      exact gm_ret (v := some (.int _)) k_Md_total rfl rfl trivial rfl ⟨rfl, rfl⟩
  · skip
    rw [if_pos (show v1 = 0 from h1)] at hp
    refine gm_p k_Md_total rfl rfl ?_
    refine gm_g k_Md_total rfl rfl rfl rfl ?_
    refine gm_if k_Md_total rfl rfl rfl (fun h4 => ?_) (fun h4 => ?_)
    · skip
      rw [if_pos (show (σ.1 7) = 0 from h4)] at hp
      refine gm_p k_Md_total rfl rfl ?_
      refine gm_j k_Md_total rfl rfl ?_
      cases hp
      exact gm_ret (v := some (.int _)) k_Md_total rfl rfl trivial rfl ⟨rfl, rfl⟩
    · skip
      rw [if_neg (show ¬ ((σ.1 7) = 0) from h4)] at hp
      refine gm_p k_Md_total rfl rfl ?_
      refine gm_g k_Md_total rfl rfl rfl rfl ?_
      refine gm_j k_Md_total rfl rfl ?_
      cases hp
      exact gm_ret (v := some (.int _)) k_Md_total rfl rfl trivial rfl ⟨rfl, rfl⟩
def sp_Md_run  (v1 : Int32) (σ : gm_S) : Option (Int32 × gm_S) := (if (σ.1 50) = 0 then some ((-1), ((upd σ.1 0 0), σ.2)) else (if v1 = (-1) then some ((σ.1 55), ((upd σ.1 0 0), σ.2)) else (if v1 = (-2) then some ((σ.1 51), ((upd σ.1 0 0), σ.2)) else (if (q_in v1 0 ((σ.1 55) - 1)) = 0 then some ((-1), ((upd σ.1 0 0), σ.2)) else (if gi v1 301 = true then some (((σ.2 56) v1.toNatClampNeg), ((upd σ.1 0 0), σ.2)) else none)))))
theorem c_sp_Md_run  {v1 : Int32} {σ : gm_S} {r : Int32 × gm_S} (hp : sp_Md_run  v1 σ = some r) : gm_Has l F (d + 1) m_Md_run a A [.int v1] σ (fun w σ' => w = some (.int r.1) ∧ σ' = r.2) := by
  refine gm_meth (k := 0) (L := [some (.ref a), some (.int v1)]) pn_Md rfl (Nat.le_of_ble_eq_true rfl) ?_
  unfold sp_Md_run at hp
  refine gm_p k_Md_run rfl rfl ?_
  refine gm_p k_Md_run rfl rfl ?_
  refine gm_pt k_Md_run rfl rfl rfl trivial (by decide) rfl ?_
  refine gm_p k_Md_run rfl rfl ?_
  refine gm_g k_Md_run rfl rfl rfl rfl ?_
  refine gm_if k_Md_run rfl rfl rfl (fun h1 => ?_) (fun h1 => ?_)
  · skip
    rw [if_neg (show ¬ ((σ.1 50) = 0) from h1)] at hp
    refine gm_p k_Md_run rfl rfl ?_
    refine gm_p k_Md_run rfl rfl ?_
    refine gm_ic k_Md_run rfl rfl rfl (fun h2 => ?_) (fun h2 => ?_)
    · skip
      rw [if_neg (show ¬ (v1 = (-1)) from h2)] at hp
      refine gm_p k_Md_run rfl rfl ?_
      refine gm_p k_Md_run rfl rfl ?_
      refine gm_ic k_Md_run rfl rfl rfl (fun h3 => ?_) (fun h3 => ?_)
      · skip
        rw [if_neg (show ¬ (v1 = (-2)) from h3)] at hp
        refine gm_p k_Md_run rfl rfl ?_
        refine gm_p k_Md_run rfl rfl ?_
        refine gm_p k_Md_run rfl rfl ?_
        refine gm_g k_Md_run rfl rfl rfl rfl ?_
        refine gm_p k_Md_run rfl rfl ?_
        refine gm_p k_Md_run rfl rfl ?_
        refine gm_is (M' := m_Md_in) (As := [.int v1, .int 0, .int ((σ.1 55) - 1)]) k_Md_run rfl rfl rfl rfl rfl rfl (Nat.le_of_ble_eq_true rfl) (fun h => c_Md_inQ v1 0 ((σ.1 55) - 1) h) ?_
        refine gm_if k_Md_run rfl rfl rfl (fun h4 => ?_) (fun h4 => ?_)
        · skip
          rw [if_pos (show (q_in v1 0 ((σ.1 55) - 1)) = 0 from h4)] at hp
          refine gm_p k_Md_run rfl rfl ?_
          cases hp
          exact gm_ret (v := some (.int _)) k_Md_run rfl rfl trivial rfl ⟨rfl, rfl⟩
        · skip
          rw [if_neg (show ¬ ((q_in v1 0 ((σ.1 55) - 1)) = 0) from h4)] at hp
          refine gm_p k_Md_run rfl rfl ?_
          refine gm_g k_Md_run rfl rfl rfl rfl ?_
          refine gm_p k_Md_run rfl rfl ?_
          by_cases g5 : gi v1 301 = true
          · rw [if_pos g5] at hp
            refine gm_ld k_Md_run rfl rfl (gi_in g5) (by decide) ?_
            refine gm_j k_Md_run rfl rfl ?_
            cases hp
            exact gm_ret (v := some (.int _)) k_Md_run rfl rfl trivial rfl ⟨rfl, rfl⟩
          · rw [if_neg g5] at hp
            cases hp
      · skip
        rw [if_pos (show v1 = (-2) from h3)] at hp
        refine gm_p k_Md_run rfl rfl ?_
        refine gm_g k_Md_run rfl rfl rfl rfl ?_
        cases hp
        exact gm_ret (v := some (.int _)) k_Md_run rfl rfl trivial rfl ⟨rfl, rfl⟩
    · skip
      rw [if_pos (show v1 = (-1) from h2)] at hp
      refine gm_p k_Md_run rfl rfl ?_
      refine gm_g k_Md_run rfl rfl rfl rfl ?_
      cases hp
      exact gm_ret (v := some (.int _)) k_Md_run rfl rfl trivial rfl ⟨rfl, rfl⟩
  · skip
    rw [if_pos (show (σ.1 50) = 0 from h1)] at hp
    refine gm_p k_Md_run rfl rfl ?_
    cases hp
    exact gm_ret (v := some (.int _)) k_Md_run rfl rfl trivial rfl ⟨rfl, rfl⟩
def sp_Md_isSeen_2   : Nat → Int32 → Int32 → Int32 → gm_S → Option (Int32 × gm_S)
  | 0, _, _, _, _ => none
  | m + 1, v1, v2, v3, σ => (if (σ.1 51) ≤ v3 then some (0, σ) else (if gi (2 * v3) 600 = true then (if ((σ.2 52) (2 * v3).toNatClampNeg) = v1 then (if gi ((2 * v3) + 1) 600 = true then (if ((σ.2 52) ((2 * v3) + 1).toNatClampNeg) = v2 then some (1, σ) else sp_Md_isSeen_2   m v1 v2 (v3 + 1) σ) else none) else sp_Md_isSeen_2   m v1 v2 (v3 + 1) σ) else none))
theorem c_sp_Md_isSeen_2  {r : Int32 × gm_S} : ∀ (m : Nat) (v1 : Int32) (v2 : Int32) (v3 : Int32) (σ : gm_S), sp_Md_isSeen_2   m v1 v2 v3 σ = some r → gm_Go l F (d) m_Md_isSeen a A 2 ([some (.ref a), some (.int v1), some (.int v2), some (.int v3)]) [] σ (fun w σ' => w = some (.int r.1) ∧ σ' = r.2) := by
  intro m
  induction m with
  | zero => intro v1 v2 v3 σ hp; cases hp
  | succ m ihm =>
    intro v1 v2 v3 σ hp
    unfold sp_Md_isSeen_2 at hp
    refine gm_p k_Md_isSeen rfl rfl ?_
    refine gm_p k_Md_isSeen rfl rfl ?_
    refine gm_g k_Md_isSeen rfl rfl rfl rfl ?_
    refine gm_ic k_Md_isSeen rfl rfl rfl (fun h1 => ?_) (fun h1 => ?_)
    · skip
      rw [if_pos (show (σ.1 51) ≤ v3 from h1)] at hp
      refine gm_p k_Md_isSeen rfl rfl ?_
      cases hp
      exact gm_ret (v := some (.int _)) k_Md_isSeen rfl rfl (Or.inl rfl) rfl ⟨rfl, rfl⟩
    · skip
      rw [if_neg (show ¬ ((σ.1 51) ≤ v3) from h1)] at hp
      refine gm_p k_Md_isSeen rfl rfl ?_
      refine gm_g k_Md_isSeen rfl rfl rfl rfl ?_
      refine gm_p k_Md_isSeen rfl rfl ?_
      refine gm_p k_Md_isSeen rfl rfl ?_
      refine gm_p k_Md_isSeen rfl rfl ?_
      by_cases g2 : gi (2 * v3) 600 = true
      · rw [if_pos g2] at hp
        refine gm_ld k_Md_isSeen rfl rfl (gi_in g2) (by decide) ?_
        refine gm_p k_Md_isSeen rfl rfl ?_
        refine gm_ic k_Md_isSeen rfl rfl rfl (fun h3 => ?_) (fun h3 => ?_)
        · skip
          rw [if_neg (show ¬ (((σ.2 52) (2 * v3).toNatClampNeg) = v1) from h3)] at hp
          refine gm_p (L' := [some (.ref a), some (.int v1), some (.int v2), some (.int (v3 + 1))]) (st' := []) k_Md_isSeen rfl rfl ?_
          refine gm_j k_Md_isSeen rfl rfl ?_
          exact ihm _ _ _ _ hp
        · skip
          rw [if_pos (show ((σ.2 52) (2 * v3).toNatClampNeg) = v1 from h3)] at hp
          refine gm_p k_Md_isSeen rfl rfl ?_
          refine gm_g k_Md_isSeen rfl rfl rfl rfl ?_
          refine gm_p k_Md_isSeen rfl rfl ?_
          refine gm_p k_Md_isSeen rfl rfl ?_
          refine gm_p k_Md_isSeen rfl rfl ?_
          refine gm_p k_Md_isSeen rfl rfl ?_
          refine gm_p k_Md_isSeen rfl rfl ?_
          by_cases g4 : gi ((2 * v3) + 1) 600 = true
          · rw [if_pos g4] at hp
            refine gm_ld k_Md_isSeen rfl rfl (gi_in g4) (by decide) ?_
            refine gm_p k_Md_isSeen rfl rfl ?_
            refine gm_ic k_Md_isSeen rfl rfl rfl (fun h5 => ?_) (fun h5 => ?_)
            · skip
              rw [if_neg (show ¬ (((σ.2 52) ((2 * v3) + 1).toNatClampNeg) = v2) from h5)] at hp
              refine gm_p (L' := [some (.ref a), some (.int v1), some (.int v2), some (.int (v3 + 1))]) (st' := []) k_Md_isSeen rfl rfl ?_
              refine gm_j k_Md_isSeen rfl rfl ?_
              exact ihm _ _ _ _ hp
            · skip
              rw [if_pos (show ((σ.2 52) ((2 * v3) + 1).toNatClampNeg) = v2 from h5)] at hp
              refine gm_p k_Md_isSeen rfl rfl ?_
              cases hp
              exact gm_ret (v := some (.int _)) k_Md_isSeen rfl rfl (Or.inr rfl) rfl ⟨rfl, rfl⟩
          · rw [if_neg g4] at hp
            cases hp
      · rw [if_neg g2] at hp
        cases hp
def sp_Md_isSeen  (v1 : Int32) (v2 : Int32) (σ : gm_S) : Option (Int32 × gm_S) := sp_Md_isSeen_2   2601 v1 v2 0 σ
theorem c_sp_Md_isSeen  {v1 : Int32} {v2 : Int32} {σ : gm_S} {r : Int32 × gm_S} (hp : sp_Md_isSeen  v1 v2 σ = some r) : gm_Has l F (d) m_Md_isSeen a A [.int v1, .int v2] σ (fun w σ' => w = some (.int r.1) ∧ σ' = r.2) := by
  refine gm_meth (k := 1) (L := [some (.ref a), some (.int v1), some (.int v2), none]) pn_Md rfl (Nat.le_of_ble_eq_true rfl) ?_
  unfold sp_Md_isSeen at hp
  refine gm_p k_Md_isSeen rfl rfl ?_
  refine gm_p (L' := [some (.ref a), some (.int v1), some (.int v2), some (.int 0)]) (st' := []) k_Md_isSeen rfl rfl ?_
  exact c_sp_Md_isSeen_2   _ _ _ _ _ hp
def sp_Md_keep  (v1 : Int32) (v2 : Int32) (v3 : Int32) (v4 : Int32) (σ : gm_S) : Option (gm_S) := (if gi (2 * (σ.1 51)) 600 = true then (if gi ((2 * (σ.1 51)) + 1) 600 = true then (if gi (σ.1 51) 300 = true then some ((upd σ.1 51 ((σ.1 51) + 1)), (gm_up (gm_up (gm_up (gm_up σ.2 52 (upd (σ.2 52) (2 * (σ.1 51)).toNatClampNeg v1)) 52 (upd (upd (σ.2 52) (2 * (σ.1 51)).toNatClampNeg v1) ((2 * (σ.1 51)) + 1).toNatClampNeg v2)) 53 (upd (σ.2 53) (σ.1 51).toNatClampNeg v3)) 54 (upd (σ.2 54) (σ.1 51).toNatClampNeg v4))) else none) else none) else none)
theorem c_sp_Md_keep  {v1 : Int32} {v2 : Int32} {v3 : Int32} {v4 : Int32} {σ : gm_S} {r : gm_S} (hp : sp_Md_keep  v1 v2 v3 v4 σ = some r) : gm_Has l F (d) m_Md_keep a A [.int v1, .int v2, .int v3, .int v4] σ (fun w σ' => w = none ∧ σ' = r) := by
  refine gm_meth (k := 0) (L := [some (.ref a), some (.int v1), some (.int v2), some (.int v3), some (.int v4)]) pn_Md rfl (Nat.le_of_ble_eq_true rfl) ?_
  unfold sp_Md_keep at hp
  refine gm_p k_Md_keep rfl rfl ?_
  refine gm_g k_Md_keep rfl rfl rfl rfl ?_
  refine gm_p k_Md_keep rfl rfl ?_
  refine gm_p k_Md_keep rfl rfl ?_
  refine gm_g k_Md_keep rfl rfl rfl rfl ?_
  refine gm_p k_Md_keep rfl rfl ?_
  refine gm_p k_Md_keep rfl rfl ?_
  by_cases g1 : gi (2 * (σ.1 51)) 600 = true
  · rw [if_pos g1] at hp
    refine gm_sto k_Md_keep rfl rfl (gi_in g1) (by decide) ?_
    refine gm_p k_Md_keep rfl rfl ?_
    refine gm_g k_Md_keep rfl rfl rfl rfl ?_
    refine gm_p k_Md_keep rfl rfl ?_
    refine gm_p k_Md_keep rfl rfl ?_
    refine gm_g k_Md_keep rfl rfl rfl rfl ?_
    refine gm_p k_Md_keep rfl rfl ?_
    refine gm_p k_Md_keep rfl rfl ?_
    refine gm_p k_Md_keep rfl rfl ?_
    refine gm_p k_Md_keep rfl rfl ?_
    by_cases g2 : gi ((2 * (σ.1 51)) + 1) 600 = true
    · rw [if_pos g2] at hp
      refine gm_sto k_Md_keep rfl rfl (gi_in g2) (by decide) ?_
      refine gm_p k_Md_keep rfl rfl ?_
      refine gm_g k_Md_keep rfl rfl rfl rfl ?_
      refine gm_p k_Md_keep rfl rfl ?_
      refine gm_g k_Md_keep rfl rfl rfl rfl ?_
      refine gm_p k_Md_keep rfl rfl ?_
      by_cases g3 : gi (σ.1 51) 300 = true
      · rw [if_pos g3] at hp
        refine gm_sto k_Md_keep rfl rfl (gi_in g3) (by decide) ?_
        refine gm_p k_Md_keep rfl rfl ?_
        refine gm_g k_Md_keep rfl rfl rfl rfl ?_
        refine gm_p k_Md_keep rfl rfl ?_
        refine gm_g k_Md_keep rfl rfl rfl rfl ?_
        refine gm_p k_Md_keep rfl rfl ?_
        refine gm_sto k_Md_keep rfl rfl (gi_in g3) (by decide) ?_
        refine gm_p k_Md_keep rfl rfl ?_
        refine gm_p k_Md_keep rfl rfl ?_
        refine gm_g k_Md_keep rfl rfl rfl rfl ?_
        refine gm_p k_Md_keep rfl rfl ?_
        refine gm_p k_Md_keep rfl rfl ?_
        refine gm_pt k_Md_keep rfl rfl rfl trivial (by decide) rfl ?_
        cases hp
        exact gm_ret (v := none) k_Md_keep rfl rfl trivial rfl ⟨rfl, rfl⟩
      · rw [if_neg g3] at hp
        cases hp
    · rw [if_neg g2] at hp
      cases hp
  · rw [if_neg g1] at hp
    cases hp
def sp_Md_findWay_54   : Nat → Int32 → Int32 → Int32 → Int32 → gm_S → Option (gm_S)
  | 0, _, _, _, _, _ => none
  | m + 1, v1, v2, v3, v4, σ => (if gi v4 300 = true then (if ((σ.2 53) v4.toNatClampNeg) = (-1) then some σ else (if gi (v3 + (-1)) 301 = true then sp_Md_findWay_54   m v1 v2 (v3 + (-1)) ((σ.2 53) v4.toNatClampNeg) (σ.1, (gm_up σ.2 56 (upd (σ.2 56) (v3 + (-1)).toNatClampNeg ((σ.2 54) v4.toNatClampNeg)))) else none)) else none)
theorem c_sp_Md_findWay_54  {r : gm_S} : ∀ (m : Nat) (v1 : Int32) (v2 : Int32) (v3 : Int32) (v4 : Int32) (σ : gm_S), sp_Md_findWay_54   m v1 v2 v3 v4 σ = some r → gm_Go l F (d) m_Md_findWay a A 54 ([some (.ref a), some (.int v1), some (.int v2), some (.int v3), some (.int v4)]) [] σ (fun w σ' => w = none ∧ σ' = r) := by
  intro m
  induction m with
  | zero => intro v1 v2 v3 v4 σ hp; cases hp
  | succ m ihm =>
    intro v1 v2 v3 v4 σ hp
    unfold sp_Md_findWay_54 at hp
    refine gm_p k_Md_findWay rfl rfl ?_
    refine gm_g k_Md_findWay rfl rfl rfl rfl ?_
    refine gm_p k_Md_findWay rfl rfl ?_
    by_cases g4 : gi v4 300 = true
    · rw [if_pos g4] at hp
      refine gm_ld k_Md_findWay rfl rfl (gi_in g4) (by decide) ?_
      refine gm_p k_Md_findWay rfl rfl ?_
      refine gm_ic k_Md_findWay rfl rfl rfl (fun h5 => ?_) (fun h5 => ?_)
      · skip
        rw [if_pos (show ((σ.2 53) v4.toNatClampNeg) = (-1) from h5)] at hp
        cases hp
        exact gm_ret (v := none) k_Md_findWay rfl rfl trivial rfl ⟨rfl, rfl⟩
      · skip
        rw [if_neg (show ¬ (((σ.2 53) v4.toNatClampNeg) = (-1)) from h5)] at hp
        refine gm_p (L' := [some (.ref a), some (.int v1), some (.int v2), some (.int (v3 + (-1))), some (.int v4)]) (st' := []) k_Md_findWay rfl rfl ?_
        refine gm_p k_Md_findWay rfl rfl ?_
        refine gm_g k_Md_findWay rfl rfl rfl rfl ?_
        refine gm_p k_Md_findWay rfl rfl ?_
        refine gm_p k_Md_findWay rfl rfl ?_
        refine gm_g k_Md_findWay rfl rfl rfl rfl ?_
        refine gm_p k_Md_findWay rfl rfl ?_
        refine gm_ld k_Md_findWay rfl rfl (gi_in g4) (by decide) ?_
        by_cases g6 : gi (v3 + (-1)) 301 = true
        · rw [if_pos g6] at hp
          refine gm_sto k_Md_findWay rfl rfl (gi_in g6) (by decide) ?_
          refine gm_p k_Md_findWay rfl rfl ?_
          refine gm_g k_Md_findWay rfl rfl rfl rfl ?_
          refine gm_p k_Md_findWay rfl rfl ?_
          refine gm_ld k_Md_findWay rfl rfl (gi_in g4) (by decide) ?_
          refine gm_p (L' := [some (.ref a), some (.int v1), some (.int v2), some (.int (v3 + (-1))), some (.int ((σ.2 53) v4.toNatClampNeg))]) (st' := []) k_Md_findWay rfl rfl ?_
          refine gm_j k_Md_findWay rfl rfl ?_
          exact ihm _ _ _ _ _ hp
        · rw [if_neg g6] at hp
          cases hp
    · rw [if_neg g4] at hp
      cases hp
def sp_Md_findWay_7   : Nat → Int32 → Int32 → Int32 → gm_S → Option (gm_S)
  | 0, _, _, _, _ => none
  | m + 1, v1, v2, v3, σ => (if gi v3 300 = true then (if ((σ.2 53) v3.toNatClampNeg) = (-1) then (if gi ((σ.1 55) - 1) 301 = true then sp_Md_findWay_54   2601 v1 v2 ((σ.1 55) - 1) v1 (σ.1, (gm_up σ.2 56 (upd (σ.2 56) ((σ.1 55) - 1).toNatClampNeg v2))) else none) else sp_Md_findWay_7   m v1 v2 ((σ.2 53) v3.toNatClampNeg) ((upd σ.1 55 ((σ.1 55) + 1)), σ.2)) else none)
theorem c_sp_Md_findWay_7  {r : gm_S} : ∀ (m : Nat) (v1 : Int32) (v2 : Int32) (v3 : Int32) (σ : gm_S), sp_Md_findWay_7   m v1 v2 v3 σ = some r → ∀ x4 : Option Value, gm_Go l F (d) m_Md_findWay a A 7 ([some (.ref a), some (.int v1), some (.int v2), some (.int v3), x4]) [] σ (fun w σ' => w = none ∧ σ' = r) := by
  intro m
  induction m with
  | zero => intro v1 v2 v3 σ hp; cases hp
  | succ m ihm =>
    intro v1 v2 v3 σ hp x4
    unfold sp_Md_findWay_7 at hp
    refine gm_p k_Md_findWay rfl rfl ?_
    refine gm_g k_Md_findWay rfl rfl rfl rfl ?_
    refine gm_p k_Md_findWay rfl rfl ?_
    by_cases g1 : gi v3 300 = true
    · rw [if_pos g1] at hp
      refine gm_ld k_Md_findWay rfl rfl (gi_in g1) (by decide) ?_
      refine gm_p k_Md_findWay rfl rfl ?_
      refine gm_ic k_Md_findWay rfl rfl rfl (fun h2 => ?_) (fun h2 => ?_)
      · skip
        rw [if_pos (show ((σ.2 53) v3.toNatClampNeg) = (-1) from h2)] at hp
        refine gm_p k_Md_findWay rfl rfl ?_
        refine gm_g k_Md_findWay rfl rfl rfl rfl ?_
        refine gm_p k_Md_findWay rfl rfl ?_
        refine gm_p k_Md_findWay rfl rfl ?_
        refine gm_p (L' := [some (.ref a), some (.int v1), some (.int v2), some (.int ((σ.1 55) - 1)), x4]) (st' := []) k_Md_findWay rfl rfl ?_
        refine gm_p k_Md_findWay rfl rfl ?_
        refine gm_g k_Md_findWay rfl rfl rfl rfl ?_
        refine gm_p k_Md_findWay rfl rfl ?_
        refine gm_p k_Md_findWay rfl rfl ?_
        by_cases g3 : gi ((σ.1 55) - 1) 301 = true
        · rw [if_pos g3] at hp
          refine gm_sto k_Md_findWay rfl rfl (gi_in g3) (by decide) ?_
          refine gm_p k_Md_findWay rfl rfl ?_
          refine gm_p (L' := [some (.ref a), some (.int v1), some (.int v2), some (.int ((σ.1 55) - 1)), some (.int v1)]) (st' := []) k_Md_findWay rfl rfl ?_
          exact c_sp_Md_findWay_54   _ _ _ _ _ _ hp
        · rw [if_neg g3] at hp
          cases hp
      · skip
        rw [if_neg (show ¬ (((σ.2 53) v3.toNatClampNeg) = (-1)) from h2)] at hp
        refine gm_p k_Md_findWay rfl rfl ?_
        refine gm_p k_Md_findWay rfl rfl ?_
        refine gm_g k_Md_findWay rfl rfl rfl rfl ?_
        refine gm_p k_Md_findWay rfl rfl ?_
        refine gm_p k_Md_findWay rfl rfl ?_
        refine gm_pt k_Md_findWay rfl rfl rfl trivial (by decide) rfl ?_
        refine gm_p k_Md_findWay rfl rfl ?_
        refine gm_g k_Md_findWay rfl rfl rfl rfl ?_
        refine gm_p k_Md_findWay rfl rfl ?_
        refine gm_ld k_Md_findWay rfl rfl (gi_in g1) (by decide) ?_
        refine gm_p (L' := [some (.ref a), some (.int v1), some (.int v2), some (.int ((σ.2 53) v3.toNatClampNeg)), x4]) (st' := []) k_Md_findWay rfl rfl ?_
        refine gm_j k_Md_findWay rfl rfl ?_
        exact ihm _ _ _ _ hp _
    · rw [if_neg g1] at hp
      cases hp
def sp_Md_findWay  (v1 : Int32) (v2 : Int32) (σ : gm_S) : Option (gm_S) := sp_Md_findWay_7   2601 v1 v2 v1 ((upd σ.1 55 1), σ.2)
theorem c_sp_Md_findWay  {v1 : Int32} {v2 : Int32} {σ : gm_S} {r : gm_S} (hp : sp_Md_findWay  v1 v2 σ = some r) : gm_Has l F (d) m_Md_findWay a A [.int v1, .int v2] σ (fun w σ' => w = none ∧ σ' = r) := by
  refine gm_meth (k := 2) (L := [some (.ref a), some (.int v1), some (.int v2), none, none]) pn_Md rfl (Nat.le_of_ble_eq_true rfl) ?_
  unfold sp_Md_findWay at hp
  refine gm_p k_Md_findWay rfl rfl ?_
  refine gm_p k_Md_findWay rfl rfl ?_
  refine gm_pt k_Md_findWay rfl rfl rfl trivial (by decide) rfl ?_
  refine gm_p k_Md_findWay rfl rfl ?_
  refine gm_p (L' := [some (.ref a), some (.int v1), some (.int v2), some (.int v1), none]) (st' := []) k_Md_findWay rfl rfl ?_
  exact c_sp_Md_findWay_7   _ _ _ _ _ hp _
end OP1
