theorem pn_H : plainName "SignalHouse" = true := by decide +kernel
theorem pn_Codes : plainName "SignalHouse$Codes" = true := by decide +kernel
theorem pn_Inst : plainName "SignalHouse$Instance" = true := by decide +kernel
theorem pn_Node : plainName "SignalHouse$Node" = true := by decide +kernel
theorem pn_Prog : plainName "SignalHouse$Program" = true := by decide +kernel
theorem pn_Rd : plainName "SignalHouse$Reader" = true := by decide +kernel
theorem pn_Sk : plainName "SignalHouse$Seeker" = true := by decide +kernel
theorem pn_Tk : plainName "SignalHouse$Ticker" = true := by decide +kernel
theorem pn_Md : plainName "SignalHouseModel" = true := by decide +kernel
theorem pn_Arrays : plainName "java/util/Arrays" = true := by decide +kernel
section C1
variable {l : Launch} {F : gx_F} {d : Nat} {h : gx_H}
theorem c_Codes_greater (a b : Int32) : gx_Has l F d m_Codes_greater [.int a, .int b] h (fun v h' => v = some (.int ((a &&& -(b &&& -b)) ||| (b &&& -(a &&& -a)))) ∧ h' = h) := by
  refine gx_meth (k := 0) (L := [some (.int a), some (.int b)]) pn_Codes rfl (Nat.le_of_ble_eq_true rfl) ?_
  repeat (refine gx_p k_Codes_greater rfl rfl ?_)
  exact gx_ret (v := some (.int _)) k_Codes_greater rfl rfl trivial rfl ⟨_, rfl, rfl, rfl⟩
theorem c_Codes_canOf (a : Int32) : gx_Has l F d m_Codes_canOf [.int a] h (fun v h' => v = some (.int (a &&& 65535)) ∧ h' = h) := by
  refine gx_meth (k := 0) (L := [some (.int a)]) pn_Codes rfl (Nat.le_of_ble_eq_true rfl) ?_
  repeat (first | refine gx_p k_Codes_canOf rfl rfl ?_ | refine gx_ldc k_Codes_canOf rfl rfl ?_)
  exact gx_ret (v := some (.int _)) k_Codes_canOf rfl rfl trivial rfl ⟨_, rfl, rfl, rfl⟩
/-- a node's cell -/
abbrev at_Node (k v : Int32) (f : Value) (p o : Int32) (n : Value) : gx_C := .inr (2, [.int k, .int v, f, .int p, .int o, n])
theorem c_Node_standsIn {a : Nat} {k v p o : Int32} {f n : Value} (set : Int32) (hc : h.2.2 a = some (at_Node k v f p o n)) : gx_Has l F d m_Node_standsIn [.ref a, .int set] h (fun r h' => r = some (.int (if p &&& set = 0 then 0 else 1)) ∧ h' = h) := by
  refine gx_meth (k := 0) (L := [some (.ref a), some (.int set)]) pn_Node rfl (Nat.le_of_ble_eq_true rfl) ?_
  repeat (first | refine gx_p k_Node_standsIn rfl rfl ?_ | refine gx_gf k_Node_standsIn rfl rfl rfl hc rfl ?_ | refine gx_j k_Node_standsIn rfl rfl ?_)
  refine gx_if k_Node_standsIn rfl rfl rfl (fun h1 => ?_) (fun h1 => ?_)
  · repeat (first | refine gx_p k_Node_standsIn rfl rfl ?_ | refine gx_j k_Node_standsIn rfl rfl ?_)
    exact gx_ret (v := some (.int _)) k_Node_standsIn rfl rfl (Or.inl rfl) rfl ⟨_, rfl, by rw [if_pos h1], rfl⟩
  · repeat (first | refine gx_p k_Node_standsIn rfl rfl ?_ | refine gx_j k_Node_standsIn rfl rfl ?_)
    exact gx_ret (v := some (.int _)) k_Node_standsIn rfl rfl (Or.inr rfl) rfl ⟨_, rfl, by rw [if_neg h1], rfl⟩
end C1
