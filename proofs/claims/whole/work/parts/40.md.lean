theorem gx_cmp0 {x y : Int64} : lg_cmp x y = 0 ↔ x = y := by
  unfold lg_cmp
  constructor
  · intro h
    split at h
    · exact absurd h (by decide)
    · split at h
      · assumption
      · exact absurd h (by decide)
  · intro h
    subst h
    have : ¬ x > x := by rw [gt_iff_lt, Int64.lt_iff_toInt_lt]; omega
    simp [this]
section MD1
variable {l : Launch} {F : gx_F} {d : Nat} {a : Nat} {A : Nat → Nat} {σ : gm_S}
theorem c_Md_in (x : Int32) (y : Int32) (z : Int32) (h : gx_H) : gx_Has l F d m_Md_in [.int x, .int y, .int z] h (fun v h' => v = some (.int (if x < y then 0 else if z < x then 0 else 1)) ∧ h' = h) := by
  refine gx_meth (k := 0) (L := [some (.int x), some (.int y), some (.int z)]) pn_Md rfl (Nat.le_of_ble_eq_true rfl) ?_
  repeat' (first | refine gx_p k_Md_in rfl rfl ?_ | refine gx_j k_Md_in rfl rfl ?_ | refine gx_ic k_Md_in rfl rfl rfl (fun hc => ?_) (fun hc => ?_) | refine gx_if k_Md_in rfl rfl rfl (fun hc => ?_) (fun hc => ?_) | refine gx_l2w k_Md_in rfl rfl ?_)
  all_goals refine gx_ret (v := some (.int _)) k_Md_in rfl rfl (by first | exact Or.inl rfl | exact Or.inr rfl) rfl ⟨_, rfl, ?_, rfl⟩
  all_goals first | rfl | ((repeat' split) <;> first | rfl | (exfalso; simp only [Int32.lt_iff_toInt_lt, Int32.le_iff_toInt_le, Int32.not_lt, Int32.not_le] at *; omega))
theorem c_Md_lowered (x : Int32) (h : gx_H) : gx_Has l F d m_Md_lowered [.int x] h (fun v h' => v = some (.int (x &&& 1 ||| x >>> ((2 : Int32) &&& 31) &&& 1 ||| x &&& 2 ||| (x >>> ((3 : Int32) &&& 31)) <<< ((2 : Int32) &&& 31))) ∧ h' = h) := by
  refine gx_meth (k := 0) (L := [some (.int x)]) pn_Md rfl (Nat.le_of_ble_eq_true rfl) ?_
  repeat' (first | refine gx_p k_Md_lowered rfl rfl ?_ | refine gx_j k_Md_lowered rfl rfl ?_ | refine gx_ic k_Md_lowered rfl rfl rfl (fun hc => ?_) (fun hc => ?_) | refine gx_if k_Md_lowered rfl rfl rfl (fun hc => ?_) (fun hc => ?_) | refine gx_l2w k_Md_lowered rfl rfl ?_)
  all_goals refine gx_ret (v := some (.int _)) k_Md_lowered rfl rfl trivial rfl ⟨_, rfl, ?_, rfl⟩
  all_goals first | rfl | simp_all
theorem c_Md_greater (x : Int32) (y : Int32) (h : gx_H) : gx_Has l F d m_Md_greater [.int x, .int y] h (fun v h' => v = some (.int (if x = 0 then 0 else if y = 0 then 0 else (x ||| y) &&& -(if y &&& -y < x &&& -x then x &&& -x else y &&& -y))) ∧ h' = h) := by
  refine gx_meth (k := 2) (L := [some (.int x), some (.int y), none, none]) pn_Md rfl (Nat.le_of_ble_eq_true rfl) ?_
  repeat' (first | refine gx_p k_Md_greater rfl rfl ?_ | refine gx_j k_Md_greater rfl rfl ?_ | refine gx_ic k_Md_greater rfl rfl rfl (fun hc => ?_) (fun hc => ?_) | refine gx_if k_Md_greater rfl rfl rfl (fun hc => ?_) (fun hc => ?_) | refine gx_l2w k_Md_greater rfl rfl ?_)
  all_goals refine gx_ret (v := some (.int _)) k_Md_greater rfl rfl trivial rfl ⟨_, rfl, ?_, rfl⟩
  all_goals first | rfl | ((repeat' split) <;> first | rfl | (exfalso; simp only [Int32.lt_iff_toInt_lt, Int32.le_iff_toInt_le, Int32.not_lt, Int32.not_le] at *; omega)) | (simp_all; done) | (simp_all; ((repeat' split) <;> first | rfl | (exfalso; simp only [Int32.lt_iff_toInt_lt, Int32.le_iff_toInt_le, Int32.not_lt, Int32.not_le] at *; omega)))
theorem c_Md_hasSignal (x : Int64) (y : Int32) (h : gx_H) : gx_Has l F d m_Md_hasSignal [.long x, .int y] h (fun v h' => v = some (.int (if (x >>> ((32 + y).toInt64 &&& 63)) &&& 1 = 1 then 1 else 0)) ∧ h' = h) := by
  refine gx_meth (k := 0) (L := [some (.long x), none, some (.int y)]) pn_Md rfl (Nat.le_of_ble_eq_true rfl) ?_
  repeat' (first | refine gx_p k_Md_hasSignal rfl rfl ?_ | refine gx_j k_Md_hasSignal rfl rfl ?_ | refine gx_ic k_Md_hasSignal rfl rfl rfl (fun hc => ?_) (fun hc => ?_) | refine gx_if k_Md_hasSignal rfl rfl rfl (fun hc => ?_) (fun hc => ?_) | refine gx_l2w k_Md_hasSignal rfl rfl ?_)
  all_goals refine gx_ret (v := some (.int _)) k_Md_hasSignal rfl rfl (by first | exact Or.inl rfl | exact Or.inr rfl) rfl ⟨_, rfl, ?_, rfl⟩
  all_goals first | rfl | (rw [gx_cmp0] at hc; simp [hc])
theorem c_Md_codesOf (x : Int64) (h : gx_H) : gx_Has l F d m_Md_codesOf [.long x] h (fun v h' => v = some (.int (x.toInt32)) ∧ h' = h) := by
  refine gx_meth (k := 0) (L := [some (.long x), none]) pn_Md rfl (Nat.le_of_ble_eq_true rfl) ?_
  repeat' (first | refine gx_p k_Md_codesOf rfl rfl ?_ | refine gx_j k_Md_codesOf rfl rfl ?_ | refine gx_ic k_Md_codesOf rfl rfl rfl (fun hc => ?_) (fun hc => ?_) | refine gx_if k_Md_codesOf rfl rfl rfl (fun hc => ?_) (fun hc => ?_) | refine gx_l2w k_Md_codesOf rfl rfl ?_)
  all_goals refine gx_ret (v := some (.int _)) k_Md_codesOf rfl rfl trivial rfl ⟨_, rfl, ?_, rfl⟩
  all_goals first | rfl | simp_all
theorem c_Md_signalsOf (x : Int64) (h : gx_H) : gx_Has l F d m_Md_signalsOf [.long x] h (fun v h' => v = some (.long (x >>> ((32 : Int32).toInt64 &&& 63) <<< ((32 : Int32).toInt64 &&& 63))) ∧ h' = h) := by
  refine gx_meth (k := 0) (L := [some (.long x), none]) pn_Md rfl (Nat.le_of_ble_eq_true rfl) ?_
  repeat' (first | refine gx_p k_Md_signalsOf rfl rfl ?_ | refine gx_j k_Md_signalsOf rfl rfl ?_ | refine gx_ic k_Md_signalsOf rfl rfl rfl (fun hc => ?_) (fun hc => ?_) | refine gx_if k_Md_signalsOf rfl rfl rfl (fun hc => ?_) (fun hc => ?_) | refine gx_l2w k_Md_signalsOf rfl rfl ?_)
  all_goals refine gx_ret (v := some (.long _)) k_Md_signalsOf rfl rfl trivial rfl ⟨_, rfl, ?_, rfl⟩
  all_goals first | rfl | simp_all
theorem c_Md_without (x : Int64) (y : Int32) (h : gx_H) : gx_Has l F d m_Md_without [.long x, .int y] h (fun v h' => v = some (.long (x &&& ((1 <<< ((32 + y).toInt64 &&& 63)) ^^^ (-1)))) ∧ h' = h) := by
  refine gx_meth (k := 0) (L := [some (.long x), none, some (.int y)]) pn_Md rfl (Nat.le_of_ble_eq_true rfl) ?_
  repeat' (first | refine gx_p k_Md_without rfl rfl ?_ | refine gx_j k_Md_without rfl rfl ?_ | refine gx_ic k_Md_without rfl rfl rfl (fun hc => ?_) (fun hc => ?_) | refine gx_if k_Md_without rfl rfl rfl (fun hc => ?_) (fun hc => ?_) | refine gx_l2w k_Md_without rfl rfl ?_)
  all_goals refine gx_ret (v := some (.long _)) k_Md_without rfl rfl trivial rfl ⟨_, rfl, ?_, rfl⟩
  all_goals first | rfl | simp_all
def gm_see (σ : gm_S) : Int32 := if σ.1 27 < σ.1 3 then σ.2 4 (σ.1 27).toNatClampNeg else 0
theorem c_Md_see (hin : σ.1 27 < σ.1 3 → vp_in (σ.1 27) 500) : gm_Has l F d m_Md_see a A [] σ (fun v σ' => v = some (.int (gm_see σ)) ∧ σ' = σ) := by
  refine gm_meth (k := 0) (L := [some (.ref a)]) pn_Md rfl (Nat.le_of_ble_eq_true rfl) ?_
  repeat' (first | refine gm_p k_Md_see rfl rfl ?_ | refine gm_g k_Md_see rfl rfl rfl rfl ?_ | refine gm_j k_Md_see rfl rfl ?_ | refine gm_pt k_Md_see rfl rfl rfl trivial (by decide) rfl ?_ | refine gm_ic k_Md_see rfl rfl rfl (fun hc => ?_) (fun hc => ?_) | refine gm_if k_Md_see rfl rfl rfl (fun hc => ?_) (fun hc => ?_) | refine gm_ld k_Md_see rfl rfl ?_ (by decide) ?_ | refine gm_sto k_Md_see rfl rfl ?_ (by decide) ?_)
  · refine gm_ret (v := some (.int _)) k_Md_see rfl rfl trivial rfl ⟨?_, rfl⟩
    have : ¬ σ.1 27 < σ.1 3 := by rw [Int32.lt_iff_toInt_lt]; rw [Int32.le_iff_toInt_le] at hc; omega
    simp [gm_see, this]
  · have h1 : σ.1 27 < σ.1 3 := by rw [Int32.lt_iff_toInt_lt]; rw [Int32.le_iff_toInt_le] at hc; omega
    exact hin h1
  · have h1 : σ.1 27 < σ.1 3 := by rw [Int32.lt_iff_toInt_lt]; rw [Int32.le_iff_toInt_le] at hc; omega
    refine gm_ret (v := some (.int _)) k_Md_see rfl rfl trivial rfl ⟨?_, rfl⟩
    simp [gm_see, h1]

end MD1
