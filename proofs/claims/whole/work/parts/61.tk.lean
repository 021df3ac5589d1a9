def eo (E : ck_E) (b ci : Nat) : Bool := match E b with
  | some (.inr (c, _)) => decide (c = ci)
  | _ => false
theorem eo_of {E : ck_E} {b ci : Nat} (h : eo E b ci = true) : ∃ fs, E b = some (.inr (ci, fs)) := by
  unfold eo at h
  split at h
  · next c fs he =>
    have hc : c = ci := of_decide_eq_true h
    subst hc
    exact ⟨fs, he⟩
  · cases h
def q_max (x y : Int32) : Int32 := if x < y then y else x
def q_min (x y : Int32) : Int32 := if y < x then y else x
def q_ush (x y : Int32) : Int32 := (x.toUInt32 >>> (y.toUInt32 &&& Int32.toUInt32 31)).toInt32
def q_lush (x : Int64) (y : Int32) : Int64 := (x.toUInt64 >>> (y.toInt64.toUInt64 &&& Int64.toUInt64 63)).toInt64
def q_i2c (x : Int32) : Int32 := (x.toUInt32 % 65536).toInt32
section TK0
variable {l : Launch} {F : gx_F} {d : Nat} {M M' : gx_M} {K : ck_K} {a : Nat} {A : Nat → Nat} {pc : Nat} {L : List (Option Value)} {st : List Value} {σ : ck_S} {P : Option Value → ck_S → Prop}
theorem ck_ldc {i : gx_I} {idx : Nat} (hM : gx_ok M) (ha : gx_at M.2 pc = some i) (hi : i.1 = .ldc idx) (kk : ck_Go l F d M K a A i.2.2.2.2.1 L (.int i.2.2.1 :: st) σ P) : ck_Go l F d M K a A pc L st σ P := fun σ0 h0 h h1 h2 => gx_ldc hM ha hi (kk σ0 h0 h h1 h2)
theorem ck_ivB {i : gx_I} {idx : Nat} {As rest : List Value} {r : vw_C} {e : Value} {σ1 : ck_S} (hM : gx_ok M) (ha : gx_at M.2 pc = some i) (hi : i.1 = .invokevirtual idx) (hy : i.2.2.2.2.2.2.2 = M'.1) (hn : As.length = M'.1.2.2.2.2) (hs : st = As.reverse ++ .ref a :: rest) (hcr : gx_cl[K.1]? = some r) (hcn : M'.1.1.cls = r.1) (hw : (rest.map fun v => v.category).sum ≤ 8)
    (hm : ck_Has l F d M' K a A (.ref a :: As) σ (fun v σ' => v = some e ∧ σ' = σ1)) (kk : gx_nar M'.1.2.2.2.1 (some e) → ck_Go l F (d + 1) M K a A i.2.2.2.2.1 L (e :: rest) σ1 P) : ck_Go l F (d + 1) M K a A pc L st σ P := by
  refine ck_iv hM ha hi hy hn hs hcr hcn hw hm fun v σ' hv hq => ?_
  obtain ⟨rfl, rfl⟩ := hq
  exact kk hv
theorem ck_ivV {i : gx_I} {idx : Nat} {As rest : List Value} {r : vw_C} {σ1 : ck_S} (hM : gx_ok M) (ha : gx_at M.2 pc = some i) (hi : i.1 = .invokevirtual idx) (hy : i.2.2.2.2.2.2.2 = M'.1) (hn : As.length = M'.1.2.2.2.2) (hs : st = As.reverse ++ .ref a :: rest) (hcr : gx_cl[K.1]? = some r) (hcn : M'.1.1.cls = r.1) (hw : (rest.map fun v => v.category).sum ≤ 8)
    (hm : ck_Has l F d M' K a A (.ref a :: As) σ (fun v σ' => v = none ∧ σ' = σ1)) (kk : ck_Go l F (d + 1) M K a A i.2.2.2.2.1 L rest σ1 P) : ck_Go l F (d + 1) M K a A pc L st σ P := by
  refine ck_iv hM ha hi hy hn hs hcr hcn hw hm fun v σ' hv hq => ?_
  obtain ⟨rfl, rfl⟩ := hq
  exact kk
theorem ck_ivO {i : gx_I} {idx b ci : Nat} {As rest : List Value} {r : vw_C} {e : Value} {σ1 : ck_S} (hM : gx_ok M) (ha : gx_at M.2 pc = some i) (hi : i.1 = .invokevirtual idx) (hy : i.2.2.2.2.2.2.2 = M'.1) (hn : As.length = M'.1.2.2.2.2) (hs : st = As.reverse ++ .ref b :: rest) (ho : eo σ.2.2.2.1 b ci = true) (hcr : gx_cl[ci]? = some r) (hcn : M'.1.1.cls = r.1) (hw : (rest.map fun v => v.category).sum ≤ 8)
    (hm : ck_Has l F d M' K a A (.ref b :: As) σ (fun v σ' => v = some e ∧ σ' = σ1)) (kk : gx_nar M'.1.2.2.2.1 (some e) → ck_Go l F (d + 1) M K a A i.2.2.2.2.1 L (e :: rest) σ1 P) : ck_Go l F (d + 1) M K a A pc L st σ P := by
  obtain ⟨fs, hb⟩ := eo_of ho
  refine ck_ivE hM ha hi hy hn hs hb hcr hcn hw hm fun v σ' hv hq => ?_
  obtain ⟨rfl, rfl⟩ := hq
  exact kk hv
theorem ck_isB {i : gx_I} {idx : Nat} {As rest : List Value} {e : Value} {σ1 : ck_S} (hM : gx_ok M) (ha : gx_at M.2 pc = some i) (hi : i.1 = .invokestatic idx) (hx : i.2.2.2.2.2.2.1 = [2]) (hy : i.2.2.2.2.2.2.2 = M'.1) (hn : As.length = M'.1.2.2.2.2) (hs : st = As.reverse ++ rest) (hw : (rest.map fun v => v.category).sum ≤ 8)
    (hm : ck_Has l F d M' K a A As σ (fun v σ' => v = some e ∧ σ' = σ1)) (kk : gx_nar M'.1.2.2.2.1 (some e) → ck_Go l F (d + 1) M K a A i.2.2.2.2.1 L (e :: rest) σ1 P) : ck_Go l F (d + 1) M K a A pc L st σ P := by
  refine ck_is hM ha hi hx hy hn hs hw hm fun v σ' hv hq => ?_
  obtain ⟨rfl, rfl⟩ := hq
  exact kk hv
theorem ck_isV {i : gx_I} {idx : Nat} {As rest : List Value} {σ1 : ck_S} (hM : gx_ok M) (ha : gx_at M.2 pc = some i) (hi : i.1 = .invokestatic idx) (hx : i.2.2.2.2.2.2.1 = [2]) (hy : i.2.2.2.2.2.2.2 = M'.1) (hn : As.length = M'.1.2.2.2.2) (hs : st = As.reverse ++ rest) (hw : (rest.map fun v => v.category).sum ≤ 8)
    (hm : ck_Has l F d M' K a A As σ (fun v σ' => v = none ∧ σ' = σ1)) (kk : ck_Go l F (d + 1) M K a A i.2.2.2.2.1 L rest σ1 P) : ck_Go l F (d + 1) M K a A pc L st σ P := by
  refine ck_is hM ha hi hx hy hn hs hw hm fun v σ' hv hq => ?_
  obtain ⟨rfl, rfl⟩ := hq
  exact kk
theorem ck_inV {i : gx_I} {idx b : Nat} {As rest : List Value} {σ1 : ck_S} (hM : gx_ok M) (ha : gx_at M.2 pc = some i) (hi : i.1 = .invokespecial idx) (hx : i.2.2.2.2.2.2.1 = [1]) (hy : i.2.2.2.2.2.2.2 = M'.1) (hn : As.length = M'.1.2.2.2.2) (hs : st = As.reverse ++ .ref b :: rest) (hw : (rest.map fun v => v.category).sum ≤ 8)
    (hm : ck_Has l F d M' K a A (.ref b :: As) σ (fun v σ' => v = none ∧ σ' = σ1)) (kk : ck_Go l F (d + 1) M K a A i.2.2.2.2.1 L rest σ1 P) : ck_Go l F (d + 1) M K a A pc L st σ P := by
  refine ck_in hM ha hi hx hy hn hs hw hm fun σ' hq => ?_
  obtain ⟨_, rfl⟩ := hq
  exact kk
end TK0
def tk_fs (_ : Nat → Nat) (r : Nat → Int32) (_ : Nat → Option Nat) : List Value := [.int (r 0), .int (r 1), .int (r 2), .int (r 3), .int (r 4), .int (r 5), .int (r 6), .int (r 7), .int (r 8)]
def tk_K : ck_K := (6, tk_fs, fun _ => 0, fun _ => 0)
theorem sw_Tk_weigh {x : Int32} (h1 : ¬ x = 1) (h2 : ¬ x = 2) (h3 : ¬ x = 3) (h4 : ¬ x = 4) (h5 : ¬ x = 5) (h6 : ¬ x = 6) (h7 : ¬ x = 7) (h8 : ¬ x = 8) (h9 : ¬ x = 9) (h10 : ¬ x = 10) : x.toInt < 1 ∨ 10 < x.toInt := by
  simp only [← Int32.toInt_inj] at h1 h2 h3 h4 h5 h6 h7 h8 h9 h10
  have e1 : (1 : Int32).toInt = 1 := rfl
  have e2 : (2 : Int32).toInt = 2 := rfl
  have e3 : (3 : Int32).toInt = 3 := rfl
  have e4 : (4 : Int32).toInt = 4 := rfl
  have e5 : (5 : Int32).toInt = 5 := rfl
  have e6 : (6 : Int32).toInt = 6 := rfl
  have e7 : (7 : Int32).toInt = 7 := rfl
  have e8 : (8 : Int32).toInt = 8 := rfl
  have e9 : (9 : Int32).toInt = 9 := rfl
  have e10 : (10 : Int32).toInt = 10 := rfl
  omega
theorem sw_Tk_perform {x : Int32} (h1 : ¬ x = 1) (h2 : ¬ x = 2) (h3 : ¬ x = 3) (h4 : ¬ x = 4) (h5 : ¬ x = 5) (h6 : ¬ x = 6) (h7 : ¬ x = 7) (h8 : ¬ x = 8) (h9 : ¬ x = 9) (h10 : ¬ x = 10) : x.toInt < 1 ∨ 10 < x.toInt := by
  simp only [← Int32.toInt_inj] at h1 h2 h3 h4 h5 h6 h7 h8 h9 h10
  have e1 : (1 : Int32).toInt = 1 := rfl
  have e2 : (2 : Int32).toInt = 2 := rfl
  have e3 : (3 : Int32).toInt = 3 := rfl
  have e4 : (4 : Int32).toInt = 4 := rfl
  have e5 : (5 : Int32).toInt = 5 := rfl
  have e6 : (6 : Int32).toInt = 6 := rfl
  have e7 : (7 : Int32).toInt = 7 := rfl
  have e8 : (8 : Int32).toInt = 8 := rfl
  have e9 : (9 : Int32).toInt = 9 := rfl
  have e10 : (10 : Int32).toInt = 10 := rfl
  omega
section TK1
variable {l : Launch} {F : gx_F} {d : Nat} {K : ck_K} {a : Nat} {A : Nat → Nat}
def q_Codes_pair (v0 : Int32) (v1 : Int32) : Int32 := ((v0 <<< (16 &&& 31)) ||| v1)
theorem c_q_Codes_pair {v0 : Int32} {v1 : Int32} {σ : ck_S} {r : Int32} (hp : q_Codes_pair v0 v1 = r) : ck_Has l F (d) m_Codes_pair K a A [.int v0, .int v1] σ (fun w σ' => w = some (.int r) ∧ σ' = σ) := by
  refine ck_meth (k := 0) (L := [some (.int v0), some (.int v1)]) pn_Codes rfl (Nat.le_of_ble_eq_true rfl) ?_
  unfold q_Codes_pair at hp
  refine ck_p (L' := [some (.int v0), some (.int v1)]) (st' := [.int v0]) k_Codes_pair rfl rfl ?_
  refine ck_p (L' := [some (.int v0), some (.int v1)]) (st' := [.int 16, .int v0]) k_Codes_pair rfl rfl ?_
  refine ck_p (L' := [some (.int v0), some (.int v1)]) (st' := [.int (v0 <<< (16 &&& 31))]) k_Codes_pair rfl rfl ?_
  refine ck_p (L' := [some (.int v0), some (.int v1)]) (st' := [.int v1, .int (v0 <<< (16 &&& 31))]) k_Codes_pair rfl rfl ?_
  refine ck_p (L' := [some (.int v0), some (.int v1)]) (st' := [.int ((v0 <<< (16 &&& 31)) ||| v1)]) k_Codes_pair rfl rfl ?_
  subst hp
  exact ck_ret (v := some (.int _)) k_Codes_pair rfl rfl trivial rfl ⟨rfl, rfl⟩
def q_Codes_mustOf (v0 : Int32) : Int32 := (q_ush v0 16)
theorem c_q_Codes_mustOf {v0 : Int32} {σ : ck_S} {r : Int32} (hp : q_Codes_mustOf v0 = r) : ck_Has l F (d) m_Codes_mustOf K a A [.int v0] σ (fun w σ' => w = some (.int r) ∧ σ' = σ) := by
  refine ck_meth (k := 0) (L := [some (.int v0)]) pn_Codes rfl (Nat.le_of_ble_eq_true rfl) ?_
  unfold q_Codes_mustOf at hp
  refine ck_p (L' := [some (.int v0)]) (st' := [.int v0]) k_Codes_mustOf rfl rfl ?_
  refine ck_p (L' := [some (.int v0)]) (st' := [.int 16, .int v0]) k_Codes_mustOf rfl rfl ?_
  refine ck_p (L' := [some (.int v0)]) (st' := [.int (q_ush v0 16)]) k_Codes_mustOf rfl rfl ?_
  subst hp
  exact ck_ret (v := some (.int _)) k_Codes_mustOf rfl rfl trivial rfl ⟨rfl, rfl⟩
def q_Codes_canOf (v0 : Int32) : Int32 := (v0 &&& 65535)
theorem c_q_Codes_canOf {v0 : Int32} {σ : ck_S} {r : Int32} (hp : q_Codes_canOf v0 = r) : ck_Has l F (d) m_Codes_canOf K a A [.int v0] σ (fun w σ' => w = some (.int r) ∧ σ' = σ) := by
  refine ck_meth (k := 0) (L := [some (.int v0)]) pn_Codes rfl (Nat.le_of_ble_eq_true rfl) ?_
  unfold q_Codes_canOf at hp
  refine ck_p (L' := [some (.int v0)]) (st' := [.int v0]) k_Codes_canOf rfl rfl ?_
  refine ck_ldc k_Codes_canOf rfl rfl ?_
  refine ck_p (L' := [some (.int v0)]) (st' := [.int (v0 &&& 65535)]) k_Codes_canOf rfl rfl ?_
  subst hp
  exact ck_ret (v := some (.int _)) k_Codes_canOf rfl rfl trivial rfl ⟨rfl, rfl⟩
def q_Codes_greater (v0 : Int32) (v1 : Int32) : Int32 := ((v0 &&& (-(v1 &&& (-v1)))) ||| (v1 &&& (-(v0 &&& (-v0)))))
theorem c_q_Codes_greater {v0 : Int32} {v1 : Int32} {σ : ck_S} {r : Int32} (hp : q_Codes_greater v0 v1 = r) : ck_Has l F (d) m_Codes_greater K a A [.int v0, .int v1] σ (fun w σ' => w = some (.int r) ∧ σ' = σ) := by
  refine ck_meth (k := 0) (L := [some (.int v0), some (.int v1)]) pn_Codes rfl (Nat.le_of_ble_eq_true rfl) ?_
  unfold q_Codes_greater at hp
  refine ck_p (L' := [some (.int v0), some (.int v1)]) (st' := [.int v0]) k_Codes_greater rfl rfl ?_
  refine ck_p (L' := [some (.int v0), some (.int v1)]) (st' := [.int v1, .int v0]) k_Codes_greater rfl rfl ?_
  refine ck_p (L' := [some (.int v0), some (.int v1)]) (st' := [.int v1, .int v1, .int v0]) k_Codes_greater rfl rfl ?_
  refine ck_p (L' := [some (.int v0), some (.int v1)]) (st' := [.int (-v1), .int v1, .int v0]) k_Codes_greater rfl rfl ?_
  refine ck_p (L' := [some (.int v0), some (.int v1)]) (st' := [.int (v1 &&& (-v1)), .int v0]) k_Codes_greater rfl rfl ?_
  refine ck_p (L' := [some (.int v0), some (.int v1)]) (st' := [.int (-(v1 &&& (-v1))), .int v0]) k_Codes_greater rfl rfl ?_
  refine ck_p (L' := [some (.int v0), some (.int v1)]) (st' := [.int (v0 &&& (-(v1 &&& (-v1))))]) k_Codes_greater rfl rfl ?_
  refine ck_p (L' := [some (.int v0), some (.int v1)]) (st' := [.int v1, .int (v0 &&& (-(v1 &&& (-v1))))]) k_Codes_greater rfl rfl ?_
  refine ck_p (L' := [some (.int v0), some (.int v1)]) (st' := [.int v0, .int v1, .int (v0 &&& (-(v1 &&& (-v1))))]) k_Codes_greater rfl rfl ?_
  refine ck_p (L' := [some (.int v0), some (.int v1)]) (st' := [.int v0, .int v0, .int v1, .int (v0 &&& (-(v1 &&& (-v1))))]) k_Codes_greater rfl rfl ?_
  refine ck_p (L' := [some (.int v0), some (.int v1)]) (st' := [.int (-v0), .int v0, .int v1, .int (v0 &&& (-(v1 &&& (-v1))))]) k_Codes_greater rfl rfl ?_
  refine ck_p (L' := [some (.int v0), some (.int v1)]) (st' := [.int (v0 &&& (-v0)), .int v1, .int (v0 &&& (-(v1 &&& (-v1))))]) k_Codes_greater rfl rfl ?_
  refine ck_p (L' := [some (.int v0), some (.int v1)]) (st' := [.int (-(v0 &&& (-v0))), .int v1, .int (v0 &&& (-(v1 &&& (-v1))))]) k_Codes_greater rfl rfl ?_
  refine ck_p (L' := [some (.int v0), some (.int v1)]) (st' := [.int (v1 &&& (-(v0 &&& (-v0)))), .int (v0 &&& (-(v1 &&& (-v1))))]) k_Codes_greater rfl rfl ?_
  refine ck_p (L' := [some (.int v0), some (.int v1)]) (st' := [.int ((v0 &&& (-(v1 &&& (-v1)))) ||| (v1 &&& (-(v0 &&& (-v0)))))]) k_Codes_greater rfl rfl ?_
  subst hp
  exact ck_ret (v := some (.int _)) k_Codes_greater rfl rfl trivial rfl ⟨rfl, rfl⟩
def q_Codes_behindTrap (v0 : Int32) : Int32 := (((v0 &&& 3) ||| ((q_ush v0 2) &&& 1)) ||| ((q_ush v0 1) &&& (-4)))
theorem c_q_Codes_behindTrap {v0 : Int32} {σ : ck_S} {r : Int32} (hp : q_Codes_behindTrap v0 = r) : ck_Has l F (d) m_Codes_behindTrap K a A [.int v0] σ (fun w σ' => w = some (.int r) ∧ σ' = σ) := by
  refine ck_meth (k := 0) (L := [some (.int v0)]) pn_Codes rfl (Nat.le_of_ble_eq_true rfl) ?_
  unfold q_Codes_behindTrap at hp
  refine ck_p (L' := [some (.int v0)]) (st' := [.int v0]) k_Codes_behindTrap rfl rfl ?_
  refine ck_p (L' := [some (.int v0)]) (st' := [.int 3, .int v0]) k_Codes_behindTrap rfl rfl ?_
  refine ck_p (L' := [some (.int v0)]) (st' := [.int (v0 &&& 3)]) k_Codes_behindTrap rfl rfl ?_
  refine ck_p (L' := [some (.int v0)]) (st' := [.int v0, .int (v0 &&& 3)]) k_Codes_behindTrap rfl rfl ?_
  refine ck_p (L' := [some (.int v0)]) (st' := [.int 2, .int v0, .int (v0 &&& 3)]) k_Codes_behindTrap rfl rfl ?_
  refine ck_p (L' := [some (.int v0)]) (st' := [.int (q_ush v0 2), .int (v0 &&& 3)]) k_Codes_behindTrap rfl rfl ?_
  refine ck_p (L' := [some (.int v0)]) (st' := [.int 1, .int (q_ush v0 2), .int (v0 &&& 3)]) k_Codes_behindTrap rfl rfl ?_
  refine ck_p (L' := [some (.int v0)]) (st' := [.int ((q_ush v0 2) &&& 1), .int (v0 &&& 3)]) k_Codes_behindTrap rfl rfl ?_
  refine ck_p (L' := [some (.int v0)]) (st' := [.int ((v0 &&& 3) ||| ((q_ush v0 2) &&& 1))]) k_Codes_behindTrap rfl rfl ?_
  refine ck_p (L' := [some (.int v0)]) (st' := [.int v0, .int ((v0 &&& 3) ||| ((q_ush v0 2) &&& 1))]) k_Codes_behindTrap rfl rfl ?_
  refine ck_p (L' := [some (.int v0)]) (st' := [.int 1, .int v0, .int ((v0 &&& 3) ||| ((q_ush v0 2) &&& 1))]) k_Codes_behindTrap rfl rfl ?_
  refine ck_p (L' := [some (.int v0)]) (st' := [.int (q_ush v0 1), .int ((v0 &&& 3) ||| ((q_ush v0 2) &&& 1))]) k_Codes_behindTrap rfl rfl ?_
  refine ck_p (L' := [some (.int v0)]) (st' := [.int (-4), .int (q_ush v0 1), .int ((v0 &&& 3) ||| ((q_ush v0 2) &&& 1))]) k_Codes_behindTrap rfl rfl ?_
  refine ck_p (L' := [some (.int v0)]) (st' := [.int ((q_ush v0 1) &&& (-4)), .int ((v0 &&& 3) ||| ((q_ush v0 2) &&& 1))]) k_Codes_behindTrap rfl rfl ?_
  refine ck_p (L' := [some (.int v0)]) (st' := [.int (((v0 &&& 3) ||| ((q_ush v0 2) &&& 1)) ||| ((q_ush v0 1) &&& (-4)))]) k_Codes_behindTrap rfl rfl ?_
  subst hp
  exact ck_ret (v := some (.int _)) k_Codes_behindTrap rfl rfl trivial rfl ⟨rfl, rfl⟩
def q_Tk_ending (v0 : Int32) (v1 : Int32) : Int32 := (if v1 = 0 then (q_Codes_pair 0 v0) else (q_Codes_pair v0 v0))
theorem c_q_Tk_ending {v0 : Int32} {v1 : Int32} {σ : ck_S} {r : Int32} (hp : q_Tk_ending v0 v1 = r) : ck_Has l F (d + 1) m_Tk_ending K a A [.int v0, .int v1] σ (fun w σ' => w = some (.int r) ∧ σ' = σ) := by
  refine ck_meth (k := 0) (L := [some (.int v0), some (.int v1)]) pn_Tk rfl (Nat.le_of_ble_eq_true rfl) ?_
  unfold q_Tk_ending at hp
  refine ck_p (L' := [some (.int v0), some (.int v1)]) (st' := [.int v1]) k_Tk_ending rfl rfl ?_
  refine ck_if k_Tk_ending rfl rfl rfl (fun h1 => ?_) (fun h1 => ?_)
  · skip
    rw [if_pos (show v1 = 0 from h1)] at hp
    refine ck_p (L' := [some (.int v0), some (.int v1)]) (st' := [.int 0]) k_Tk_ending rfl rfl ?_
    refine ck_p (L' := [some (.int v0), some (.int v1)]) (st' := [.int v0, .int 0]) k_Tk_ending rfl rfl ?_
    refine ck_isB (M' := m_Codes_pair) (As := [.int 0, .int v0]) k_Tk_ending rfl rfl rfl rfl rfl rfl (Nat.le_of_ble_eq_true rfl) (c_q_Codes_pair rfl) (fun _ => ?_)
    subst hp
    exact ck_ret (v := some (.int _)) k_Tk_ending rfl rfl trivial rfl ⟨rfl, rfl⟩
  · skip
    rw [if_neg (show ¬ (v1 = 0) from h1)] at hp
    refine ck_p (L' := [some (.int v0), some (.int v1)]) (st' := [.int v0]) k_Tk_ending rfl rfl ?_
    refine ck_j k_Tk_ending rfl rfl ?_
    refine ck_p (L' := [some (.int v0), some (.int v1)]) (st' := [.int v0, .int v0]) k_Tk_ending rfl rfl ?_
    refine ck_isB (M' := m_Codes_pair) (As := [.int v0, .int v0]) k_Tk_ending rfl rfl rfl rfl rfl rfl (Nat.le_of_ble_eq_true rfl) (c_q_Codes_pair rfl) (fun _ => ?_)
    subst hp
    exact ck_ret (v := some (.int _)) k_Tk_ending rfl rfl trivial rfl ⟨rfl, rfl⟩
def q_Tk_behindTrap (v0 : Int32) : Int32 := (q_Codes_pair (q_Codes_behindTrap (q_Codes_mustOf v0)) (q_Codes_behindTrap (q_Codes_canOf v0)))
theorem c_q_Tk_behindTrap {v0 : Int32} {σ : ck_S} {r : Int32} (hp : q_Tk_behindTrap v0 = r) : ck_Has l F (d + 1) m_Tk_behindTrap K a A [.int v0] σ (fun w σ' => w = some (.int r) ∧ σ' = σ) := by
  refine ck_meth (k := 0) (L := [some (.int v0)]) pn_Tk rfl (Nat.le_of_ble_eq_true rfl) ?_
  unfold q_Tk_behindTrap at hp
  refine ck_p (L' := [some (.int v0)]) (st' := [.int v0]) k_Tk_behindTrap rfl rfl ?_
  refine ck_isB (M' := m_Codes_mustOf) (As := [.int v0]) k_Tk_behindTrap rfl rfl rfl rfl rfl rfl (Nat.le_of_ble_eq_true rfl) (c_q_Codes_mustOf rfl) (fun _ => ?_)
  refine ck_isB (M' := m_Codes_behindTrap) (As := [.int (q_Codes_mustOf v0)]) k_Tk_behindTrap rfl rfl rfl rfl rfl rfl (Nat.le_of_ble_eq_true rfl) (c_q_Codes_behindTrap rfl) (fun _ => ?_)
  refine ck_p (L' := [some (.int v0)]) (st' := [.int v0, .int (q_Codes_behindTrap (q_Codes_mustOf v0))]) k_Tk_behindTrap rfl rfl ?_
  refine ck_isB (M' := m_Codes_canOf) (As := [.int v0]) k_Tk_behindTrap rfl rfl rfl rfl rfl rfl (Nat.le_of_ble_eq_true rfl) (c_q_Codes_canOf rfl) (fun _ => ?_)
  refine ck_isB (M' := m_Codes_behindTrap) (As := [.int (q_Codes_canOf v0)]) k_Tk_behindTrap rfl rfl rfl rfl rfl rfl (Nat.le_of_ble_eq_true rfl) (c_q_Codes_behindTrap rfl) (fun _ => ?_)
  refine ck_isB (M' := m_Codes_pair) (As := [.int (q_Codes_behindTrap (q_Codes_mustOf v0)), .int (q_Codes_behindTrap (q_Codes_canOf v0))]) k_Tk_behindTrap rfl rfl rfl rfl rfl rfl (Nat.le_of_ble_eq_true rfl) (c_q_Codes_pair rfl) (fun _ => ?_)
  subst hp
  exact ck_ret (v := some (.int _)) k_Tk_behindTrap rfl rfl trivial rfl ⟨rfl, rfl⟩
def sp_Node_standsIn  (v0 : Nat) (v1 : Int32) (σ : ck_S) : Option (Int32 × ck_S) := (match egI σ.2.2.2.1 v0 2 3 with
  | none => none
  | some y1 => (if (y1 &&& v1) = 0 then some (0, σ) else some (1, σ)))
theorem c_sp_Node_standsIn  {v0 : Nat} {v1 : Int32} {σ : ck_S} {r : Int32 × ck_S} (hp : sp_Node_standsIn  v0 v1 σ = some r) : ck_Has l F (d) m_Node_standsIn K a A [.ref v0, .int v1] σ (fun w σ' => w = some (.int r.1) ∧ σ' = r.2) := by
  refine ck_meth (k := 0) (L := [some (.ref v0), some (.int v1)]) pn_Node rfl (Nat.le_of_ble_eq_true rfl) ?_
  unfold sp_Node_standsIn at hp
  refine ck_p (L' := [some (.ref v0), some (.int v1)]) (st' := [.ref v0]) k_Node_standsIn rfl rfl ?_
  cases hy1 : egI σ.2.2.2.1 v0 2 3 with
  | none =>
    rw [hy1] at hp
    cases hp
  | some y1 =>
    rw [hy1] at hp
    try dsimp only at hp
    refine ck_gE k_Node_standsIn rfl rfl rfl (egI_of hy1) ?_
    refine ck_p (L' := [some (.ref v0), some (.int v1)]) (st' := [.int v1, .int y1]) k_Node_standsIn rfl rfl ?_
    refine ck_p (L' := [some (.ref v0), some (.int v1)]) (st' := [.int (y1 &&& v1)]) k_Node_standsIn rfl rfl ?_
    refine ck_if k_Node_standsIn rfl rfl rfl (fun h2 => ?_) (fun h2 => ?_)
    · skip
      rw [if_pos (show (y1 &&& v1) = 0 from h2)] at hp
      refine ck_p (L' := [some (.ref v0), some (.int v1)]) (st' := [.int 0]) k_Node_standsIn rfl rfl ?_
      cases hp
      exact ck_ret (v := some (.int _)) k_Node_standsIn rfl rfl (Or.inl rfl) rfl ⟨rfl, rfl⟩
    · skip
      rw [if_neg (show ¬ ((y1 &&& v1) = 0) from h2)] at hp
      refine ck_p (L' := [some (.ref v0), some (.int v1)]) (st' := [.int 1]) k_Node_standsIn rfl rfl ?_
      refine ck_j k_Node_standsIn rfl rfl ?_
      cases hp
      exact ck_ret (v := some (.int _)) k_Node_standsIn rfl rfl (Or.inr rfl) rfl ⟨rfl, rfl⟩
def sp_Node_partThatStands_5  (v0 : Nat)  : Nat → Int32 → Option Nat → ck_S → Option (Option Nat × ck_S)
  | 0, _, _, _ => none
  | m + 1, v1, v2, σ => (match v2 with
  | none => some (none, σ)
  | some b2 => (if eo σ.2.2.2.1 b2 2 = true then (match sp_Node_standsIn  b2 v1 σ with
  | none => none
  | some y4 => (if y4.1 = 0 then (match egR y4.2.2.2.2.1 b2 2 5 with
  | none => none
  | some y6 => sp_Node_partThatStands_5  v0   m v1 y6 y4.2) else some ((some b2), y4.2))) else none))
theorem c_sp_Node_partThatStands_5  {v0 : Nat} {r : Option Nat × ck_S} : ∀ (m : Nat) (v1 : Int32) (v2 : Option Nat) (σ : ck_S), sp_Node_partThatStands_5  v0  m v1 v2 σ = some r → ck_Go l F (d + 1) m_Node_partThatStands K a A 5 ([some (.ref v0), some (.int v1), some (va_rf v2)]) [] σ (fun w σ' => w = some (va_rf r.1) ∧ σ' = r.2) := by
  intro m
  induction m with
  | zero => intro v1 v2 σ hp; cases hp
  | succ m ihm =>
    intro v1 v2 σ hp
    unfold sp_Node_partThatStands_5 at hp
    refine ck_p (L' := [some (.ref v0), some (.int v1), some (va_rf v2)]) (st' := [va_rf v2]) k_Node_partThatStands rfl (by cases v2 <;> rfl) ?_
    cases v2 with
    | none =>
      try dsimp only at hp
      refine ck_j k_Node_partThatStands rfl rfl ?_
      refine ck_p (L' := [some (.ref v0), some (.int v1), some (.null)]) (st' := [.null]) k_Node_partThatStands rfl rfl ?_
      cases hp
      exact ck_ret (v := some (va_rf none)) k_Node_partThatStands rfl rfl trivial rfl ⟨rfl, rfl⟩
    | some b2 =>
      try dsimp only at hp
      refine ck_j k_Node_partThatStands rfl rfl ?_
      refine ck_p (L' := [some (.ref v0), some (.int v1), some (.ref b2)]) (st' := [.ref b2]) k_Node_partThatStands rfl rfl ?_
      refine ck_p (L' := [some (.ref v0), some (.int v1), some (.ref b2)]) (st' := [.int v1, .ref b2]) k_Node_partThatStands rfl rfl ?_
      by_cases g3 : eo σ.2.2.2.1 b2 2 = true
      · rw [if_pos g3] at hp
        cases hy4 : sp_Node_standsIn  b2 v1 σ with
        | none =>
          rw [hy4] at hp
          cases hp
        | some y4 =>
          rw [hy4] at hp
          try dsimp only at hp
          refine ck_ivO (M' := m_Node_standsIn) (As := [.int v1]) k_Node_partThatStands rfl rfl rfl rfl rfl g3 rfl rfl (Nat.le_of_ble_eq_true rfl) (c_sp_Node_standsIn  hy4) (fun hby4 => ?_)
          refine ck_if k_Node_partThatStands rfl rfl rfl (fun h5 => ?_) (fun h5 => ?_)
          · skip
            rw [if_pos (show y4.1 = 0 from h5)] at hp
            refine ck_p (L' := [some (.ref v0), some (.int v1), some (.ref b2)]) (st' := [.ref b2]) k_Node_partThatStands rfl rfl ?_
            cases hy6 : egR y4.2.2.2.2.1 b2 2 5 with
            | none =>
              rw [hy6] at hp
              cases hp
            | some y6 =>
              rw [hy6] at hp
              try dsimp only at hp
              refine ck_gE k_Node_partThatStands rfl rfl rfl (egR_of hy6) ?_
              refine ck_p (L' := [some (.ref v0), some (.int v1), some (va_rf y6)]) (st' := []) k_Node_partThatStands rfl (by cases y6 <;> rfl) ?_
              refine ck_j k_Node_partThatStands rfl rfl ?_
              exact ihm _ _ _ hp
          · skip
            rw [if_neg (show ¬ (y4.1 = 0) from h5)] at hp
            refine ck_p (L' := [some (.ref v0), some (.int v1), some (.ref b2)]) (st' := [.ref b2]) k_Node_partThatStands rfl rfl ?_
            cases hp
            exact ck_ret (v := some (va_rf (some b2))) k_Node_partThatStands rfl rfl trivial rfl ⟨rfl, rfl⟩
      · rw [if_neg g3] at hp
        cases hp
def sp_Node_partThatStands  (v0 : Nat) (v1 : Int32) (σ : ck_S) : Option (Option Nat × ck_S) := (match egR σ.2.2.2.1 v0 2 2 with
  | none => none
  | some y1 => sp_Node_partThatStands_5  v0  2601 v1 y1 σ)
theorem c_sp_Node_partThatStands  {v0 : Nat} {v1 : Int32} {σ : ck_S} {r : Option Nat × ck_S} (hp : sp_Node_partThatStands  v0 v1 σ = some r) : ck_Has l F (d + 1) m_Node_partThatStands K a A [.ref v0, .int v1] σ (fun w σ' => w = some (va_rf r.1) ∧ σ' = r.2) := by
  refine ck_meth (k := 1) (L := [some (.ref v0), some (.int v1), none]) pn_Node rfl (Nat.le_of_ble_eq_true rfl) ?_
  unfold sp_Node_partThatStands at hp
  refine ck_p (L' := [some (.ref v0), some (.int v1), none]) (st' := [.ref v0]) k_Node_partThatStands rfl rfl ?_
  cases hy1 : egR σ.2.2.2.1 v0 2 2 with
  | none =>
    rw [hy1] at hp
    cases hp
  | some y1 =>
    rw [hy1] at hp
    try dsimp only at hp
    refine ck_gE k_Node_partThatStands rfl rfl rfl (egR_of hy1) ?_
    refine ck_p (L' := [some (.ref v0), some (.int v1), some (va_rf y1)]) (st' := []) k_Node_partThatStands rfl (by cases y1 <;> rfl) ?_
    exact c_sp_Node_partThatStands_5   _ _ _ _ hp
def sp_Prog_inputBits  (v0 : Nat) (σ : ck_S) : Option (Int32 × ck_S) := (match egI σ.2.2.2.1 v0 3 1 with
  | none => none
  | some y1 => some ((((1 : Int32) <<< (y1 &&& 31)) - 1), σ))
theorem c_sp_Prog_inputBits  {v0 : Nat} {σ : ck_S} {r : Int32 × ck_S} (hp : sp_Prog_inputBits  v0 σ = some r) : ck_Has l F (d) m_Prog_inputBits K a A [.ref v0] σ (fun w σ' => w = some (.int r.1) ∧ σ' = r.2) := by
  refine ck_meth (k := 0) (L := [some (.ref v0)]) pn_Prog rfl (Nat.le_of_ble_eq_true rfl) ?_
  unfold sp_Prog_inputBits at hp
  refine ck_p (L' := [some (.ref v0)]) (st' := [.int 1]) k_Prog_inputBits rfl rfl ?_
  refine ck_p (L' := [some (.ref v0)]) (st' := [.ref v0, .int 1]) k_Prog_inputBits rfl rfl ?_
  cases hy1 : egI σ.2.2.2.1 v0 3 1 with
  | none =>
    rw [hy1] at hp
    cases hp
  | some y1 =>
    rw [hy1] at hp
    try dsimp only at hp
    refine ck_gE k_Prog_inputBits rfl rfl rfl (egI_of hy1) ?_
    refine ck_p (L' := [some (.ref v0)]) (st' := [.int ((1 : Int32) <<< (y1 &&& 31))]) k_Prog_inputBits rfl rfl ?_
    refine ck_p (L' := [some (.ref v0)]) (st' := [.int 1, .int ((1 : Int32) <<< (y1 &&& 31))]) k_Prog_inputBits rfl rfl ?_
    refine ck_p (L' := [some (.ref v0)]) (st' := [.int (((1 : Int32) <<< (y1 &&& 31)) - 1)]) k_Prog_inputBits rfl rfl ?_
    cases hp
    exact ck_ret (v := some (.int _)) k_Prog_inputBits rfl rfl trivial rfl ⟨rfl, rfl⟩
def sp_Prog_outputBits  (v0 : Nat) (σ : ck_S) : Option (Int32 × ck_S) := (match egI σ.2.2.2.1 v0 3 2 with
  | none => none
  | some y1 => (match egI σ.2.2.2.1 v0 3 1 with
  | none => none
  | some y2 => some (((((1 : Int32) <<< (y1 &&& 31)) - 1) <<< (y2 &&& 31)), σ)))
theorem c_sp_Prog_outputBits  {v0 : Nat} {σ : ck_S} {r : Int32 × ck_S} (hp : sp_Prog_outputBits  v0 σ = some r) : ck_Has l F (d) m_Prog_outputBits K a A [.ref v0] σ (fun w σ' => w = some (.int r.1) ∧ σ' = r.2) := by
  refine ck_meth (k := 0) (L := [some (.ref v0)]) pn_Prog rfl (Nat.le_of_ble_eq_true rfl) ?_
  unfold sp_Prog_outputBits at hp
  refine ck_p (L' := [some (.ref v0)]) (st' := [.int 1]) k_Prog_outputBits rfl rfl ?_
  refine ck_p (L' := [some (.ref v0)]) (st' := [.ref v0, .int 1]) k_Prog_outputBits rfl rfl ?_
  cases hy1 : egI σ.2.2.2.1 v0 3 2 with
  | none =>
    rw [hy1] at hp
    cases hp
  | some y1 =>
    rw [hy1] at hp
    try dsimp only at hp
    refine ck_gE k_Prog_outputBits rfl rfl rfl (egI_of hy1) ?_
    refine ck_p (L' := [some (.ref v0)]) (st' := [.int ((1 : Int32) <<< (y1 &&& 31))]) k_Prog_outputBits rfl rfl ?_
    refine ck_p (L' := [some (.ref v0)]) (st' := [.int 1, .int ((1 : Int32) <<< (y1 &&& 31))]) k_Prog_outputBits rfl rfl ?_
    refine ck_p (L' := [some (.ref v0)]) (st' := [.int (((1 : Int32) <<< (y1 &&& 31)) - 1)]) k_Prog_outputBits rfl rfl ?_
    refine ck_p (L' := [some (.ref v0)]) (st' := [.ref v0, .int (((1 : Int32) <<< (y1 &&& 31)) - 1)]) k_Prog_outputBits rfl rfl ?_
    cases hy2 : egI σ.2.2.2.1 v0 3 1 with
    | none =>
      rw [hy2] at hp
      cases hp
    | some y2 =>
      rw [hy2] at hp
      try dsimp only at hp
      refine ck_gE k_Prog_outputBits rfl rfl rfl (egI_of hy2) ?_
      refine ck_p (L' := [some (.ref v0)]) (st' := [.int ((((1 : Int32) <<< (y1 &&& 31)) - 1) <<< (y2 &&& 31))]) k_Prog_outputBits rfl rfl ?_
      cases hp
      exact ck_ret (v := some (.int _)) k_Prog_outputBits rfl rfl trivial rfl ⟨rfl, rfl⟩
def sp_Prog_hasInputs  (v0 : Nat) (v1 : Int32) (σ : ck_S) : Option (Int32 × ck_S) := (if eo σ.2.2.2.1 v0 3 = true then (match sp_Prog_inputBits  v0 σ with
  | none => none
  | some y2 => (if (v1 &&& (y2.1 ^^^ (-1))) = 0 then some (1, y2.2) else some (0, y2.2))) else none)
theorem c_sp_Prog_hasInputs  {v0 : Nat} {v1 : Int32} {σ : ck_S} {r : Int32 × ck_S} (hp : sp_Prog_hasInputs  v0 v1 σ = some r) : ck_Has l F (d + 1) m_Prog_hasInputs K a A [.ref v0, .int v1] σ (fun w σ' => w = some (.int r.1) ∧ σ' = r.2) := by
  refine ck_meth (k := 0) (L := [some (.ref v0), some (.int v1)]) pn_Prog rfl (Nat.le_of_ble_eq_true rfl) ?_
  unfold sp_Prog_hasInputs at hp
  refine ck_p (L' := [some (.ref v0), some (.int v1)]) (st' := [.int v1]) k_Prog_hasInputs rfl rfl ?_
  refine ck_p (L' := [some (.ref v0), some (.int v1)]) (st' := [.ref v0, .int v1]) k_Prog_hasInputs rfl rfl ?_
  by_cases g1 : eo σ.2.2.2.1 v0 3 = true
  · rw [if_pos g1] at hp
    cases hy2 : sp_Prog_inputBits  v0 σ with
    | none =>
      rw [hy2] at hp
      cases hp
    | some y2 =>
      rw [hy2] at hp
      try dsimp only at hp
      refine ck_ivO (M' := m_Prog_inputBits) (As := []) k_Prog_hasInputs rfl rfl rfl rfl rfl g1 rfl rfl (Nat.le_of_ble_eq_true rfl) (c_sp_Prog_inputBits  hy2) (fun hby2 => ?_)
      refine ck_p (L' := [some (.ref v0), some (.int v1)]) (st' := [.int (-1), .int y2.1, .int v1]) k_Prog_hasInputs rfl rfl ?_
      refine ck_p (L' := [some (.ref v0), some (.int v1)]) (st' := [.int (y2.1 ^^^ (-1)), .int v1]) k_Prog_hasInputs rfl rfl ?_
      refine ck_p (L' := [some (.ref v0), some (.int v1)]) (st' := [.int (v1 &&& (y2.1 ^^^ (-1)))]) k_Prog_hasInputs rfl rfl ?_
      refine ck_if k_Prog_hasInputs rfl rfl rfl (fun h3 => ?_) (fun h3 => ?_)
      · skip
        rw [if_neg (show ¬ ((v1 &&& (y2.1 ^^^ (-1))) = 0) from h3)] at hp
        refine ck_p (L' := [some (.ref v0), some (.int v1)]) (st' := [.int 0]) k_Prog_hasInputs rfl rfl ?_
        cases hp
        exact ck_ret (v := some (.int _)) k_Prog_hasInputs rfl rfl (Or.inl rfl) rfl ⟨rfl, rfl⟩
      · skip
        rw [if_pos (show (v1 &&& (y2.1 ^^^ (-1))) = 0 from h3)] at hp
        refine ck_p (L' := [some (.ref v0), some (.int v1)]) (st' := [.int 1]) k_Prog_hasInputs rfl rfl ?_
        refine ck_j k_Prog_hasInputs rfl rfl ?_
        cases hp
        exact ck_ret (v := some (.int _)) k_Prog_hasInputs rfl rfl (Or.inr rfl) rfl ⟨rfl, rfl⟩
  · rw [if_neg g1] at hp
    cases hp
def sp_Tk_learns  (v1 : Int32) (σ : ck_S) : Option (Int32 × ck_S) := (if ((σ.1 5) &&& v1) = 0 then (if ((σ.1 6) &&& v1) = 0 then some (1, ((upd σ.1 4 ((σ.1 4) ||| v1)), σ.2.1, σ.2.2.1, σ.2.2.2.1, σ.2.2.2.2.1, σ.2.2.2.2.2)) else some (0, σ)) else some (1, ((upd σ.1 3 ((σ.1 3) ||| v1)), σ.2.1, σ.2.2.1, σ.2.2.2.1, σ.2.2.2.2.1, σ.2.2.2.2.2)))
theorem c_sp_Tk_learns  {v1 : Int32} {σ : ck_S} {r : Int32 × ck_S} (hp : sp_Tk_learns  v1 σ = some r) : ck_Has l F (d) m_Tk_learns tk_K a A [.ref a, .int v1] σ (fun w σ' => w = some (.int r.1) ∧ σ' = r.2) := by
  refine ck_meth (k := 0) (L := [some (.ref a), some (.int v1)]) pn_Tk rfl (Nat.le_of_ble_eq_true rfl) ?_
  unfold sp_Tk_learns at hp
  refine ck_p (L' := [some (.ref a), some (.int v1)]) (st' := [.ref a]) k_Tk_learns rfl rfl ?_
  refine ck_g k_Tk_learns rfl rfl rfl rfl ?_
  refine ck_p (L' := [some (.ref a), some (.int v1)]) (st' := [.int v1, .int (σ.1 5)]) k_Tk_learns rfl rfl ?_
  refine ck_p (L' := [some (.ref a), some (.int v1)]) (st' := [.int ((σ.1 5) &&& v1)]) k_Tk_learns rfl rfl ?_
  refine ck_if k_Tk_learns rfl rfl rfl (fun h1 => ?_) (fun h1 => ?_)
  · skip
    rw [if_pos (show ((σ.1 5) &&& v1) = 0 from h1)] at hp
    refine ck_p (L' := [some (.ref a), some (.int v1)]) (st' := [.ref a]) k_Tk_learns rfl rfl ?_
    refine ck_g k_Tk_learns rfl rfl rfl rfl ?_
    refine ck_p (L' := [some (.ref a), some (.int v1)]) (st' := [.int v1, .int (σ.1 6)]) k_Tk_learns rfl rfl ?_
    refine ck_p (L' := [some (.ref a), some (.int v1)]) (st' := [.int ((σ.1 6) &&& v1)]) k_Tk_learns rfl rfl ?_
    refine ck_if k_Tk_learns rfl rfl rfl (fun h2 => ?_) (fun h2 => ?_)
    · skip
      rw [if_neg (show ¬ (((σ.1 6) &&& v1) = 0) from h2)] at hp
      refine ck_p (L' := [some (.ref a), some (.int v1)]) (st' := [.int 0]) k_Tk_learns rfl rfl ?_
      cases hp
      exact ck_ret (v := some (.int _)) k_Tk_learns rfl rfl (Or.inl rfl) rfl ⟨rfl, rfl⟩
    · skip
      rw [if_pos (show ((σ.1 6) &&& v1) = 0 from h2)] at hp
      refine ck_p (L' := [some (.ref a), some (.int v1)]) (st' := [.ref a]) k_Tk_learns rfl rfl ?_
      refine ck_p (L' := [some (.ref a), some (.int v1)]) (st' := [.ref a, .ref a]) k_Tk_learns rfl rfl ?_
      refine ck_g k_Tk_learns rfl rfl rfl rfl ?_
      refine ck_p (L' := [some (.ref a), some (.int v1)]) (st' := [.int v1, .int (σ.1 4), .ref a]) k_Tk_learns rfl rfl ?_
      refine ck_p (L' := [some (.ref a), some (.int v1)]) (st' := [.int ((σ.1 4) ||| v1), .ref a]) k_Tk_learns rfl rfl ?_
      refine ck_pt k_Tk_learns rfl rfl rfl trivial (Nat.le_of_ble_eq_true rfl) rfl ?_
      refine ck_p (L' := [some (.ref a), some (.int v1)]) (st' := [.int 1]) k_Tk_learns rfl rfl ?_
      cases hp
      exact ck_ret (v := some (.int _)) k_Tk_learns rfl rfl (Or.inr rfl) rfl ⟨rfl, rfl⟩
  · skip
    rw [if_neg (show ¬ (((σ.1 5) &&& v1) = 0) from h1)] at hp
    refine ck_p (L' := [some (.ref a), some (.int v1)]) (st' := [.ref a]) k_Tk_learns rfl rfl ?_
    refine ck_p (L' := [some (.ref a), some (.int v1)]) (st' := [.ref a, .ref a]) k_Tk_learns rfl rfl ?_
    refine ck_g k_Tk_learns rfl rfl rfl rfl ?_
    refine ck_p (L' := [some (.ref a), some (.int v1)]) (st' := [.int v1, .int (σ.1 3), .ref a]) k_Tk_learns rfl rfl ?_
    refine ck_p (L' := [some (.ref a), some (.int v1)]) (st' := [.int ((σ.1 3) ||| v1), .ref a]) k_Tk_learns rfl rfl ?_
    refine ck_pt k_Tk_learns rfl rfl rfl trivial (Nat.le_of_ble_eq_true rfl) rfl ?_
    refine ck_p (L' := [some (.ref a), some (.int v1)]) (st' := [.int 1]) k_Tk_learns rfl rfl ?_
    cases hp
    exact ck_ret (v := some (.int _)) k_Tk_learns rfl rfl (Or.inr rfl) rfl ⟨rfl, rfl⟩
def sp_Tk_forget  (v1 : Int32) (σ : ck_S) : Option (ck_S) := some ((upd (upd σ.1 3 ((σ.1 3) &&& (v1 ^^^ (-1)))) 4 ((σ.1 4) &&& (v1 ^^^ (-1)))), σ.2.1, σ.2.2.1, σ.2.2.2.1, σ.2.2.2.2.1, σ.2.2.2.2.2)
theorem c_sp_Tk_forget  {v1 : Int32} {σ : ck_S} {r : ck_S} (hp : sp_Tk_forget  v1 σ = some r) : ck_Has l F (d) m_Tk_forget tk_K a A [.ref a, .int v1] σ (fun w σ' => w = none ∧ σ' = r) := by
  refine ck_meth (k := 0) (L := [some (.ref a), some (.int v1)]) pn_Tk rfl (Nat.le_of_ble_eq_true rfl) ?_
  unfold sp_Tk_forget at hp
  refine ck_p (L' := [some (.ref a), some (.int v1)]) (st' := [.ref a]) k_Tk_forget rfl rfl ?_
  refine ck_p (L' := [some (.ref a), some (.int v1)]) (st' := [.ref a, .ref a]) k_Tk_forget rfl rfl ?_
  refine ck_g k_Tk_forget rfl rfl rfl rfl ?_
  refine ck_p (L' := [some (.ref a), some (.int v1)]) (st' := [.int v1, .int (σ.1 3), .ref a]) k_Tk_forget rfl rfl ?_
  refine ck_p (L' := [some (.ref a), some (.int v1)]) (st' := [.int (-1), .int v1, .int (σ.1 3), .ref a]) k_Tk_forget rfl rfl ?_
  refine ck_p (L' := [some (.ref a), some (.int v1)]) (st' := [.int (v1 ^^^ (-1)), .int (σ.1 3), .ref a]) k_Tk_forget rfl rfl ?_
  refine ck_p (L' := [some (.ref a), some (.int v1)]) (st' := [.int ((σ.1 3) &&& (v1 ^^^ (-1))), .ref a]) k_Tk_forget rfl rfl ?_
  refine ck_pt k_Tk_forget rfl rfl rfl trivial (Nat.le_of_ble_eq_true rfl) rfl ?_
  refine ck_p (L' := [some (.ref a), some (.int v1)]) (st' := [.ref a]) k_Tk_forget rfl rfl ?_
  refine ck_p (L' := [some (.ref a), some (.int v1)]) (st' := [.ref a, .ref a]) k_Tk_forget rfl rfl ?_
  refine ck_g k_Tk_forget rfl rfl rfl rfl ?_
  refine ck_p (L' := [some (.ref a), some (.int v1)]) (st' := [.int v1, .int (σ.1 4), .ref a]) k_Tk_forget rfl rfl ?_
  refine ck_p (L' := [some (.ref a), some (.int v1)]) (st' := [.int (-1), .int v1, .int (σ.1 4), .ref a]) k_Tk_forget rfl rfl ?_
  refine ck_p (L' := [some (.ref a), some (.int v1)]) (st' := [.int (v1 ^^^ (-1)), .int (σ.1 4), .ref a]) k_Tk_forget rfl rfl ?_
  refine ck_p (L' := [some (.ref a), some (.int v1)]) (st' := [.int ((σ.1 4) &&& (v1 ^^^ (-1))), .ref a]) k_Tk_forget rfl rfl ?_
  refine ck_pt k_Tk_forget rfl rfl rfl trivial (Nat.le_of_ble_eq_true rfl) rfl ?_
  cases hp
  exact ck_ret (v := none) k_Tk_forget rfl rfl trivial rfl ⟨rfl, rfl⟩
def tw_IH (l : Launch) (F : gx_F) (a : Nat) (A : Nat → Nat) (D : Nat) (f : Option Nat → Int32 → Int32 → ck_S → Option (Int32 × ck_S)) : Prop := ∀ (dd : Nat) (n : Option Nat) (b s : Int32) (σ : ck_S) (r : Int32 × ck_S), D ≤ dd → f n b s σ = some r → ck_Has l F dd m_Tk_weigh tk_K a A [.ref a, va_rf n, .int b, .int s] σ (fun w σ' => w = some (.int r.1) ∧ σ' = r.2)
variable {D : Nat} {f : Option Nat → Int32 → Int32 → ck_S → Option (Int32 × ck_S)}
def sp_Tk_weighAlone (f : Option Nat → Int32 → Int32 → ck_S → Option (Int32 × ck_S)) (v1 : Option Nat) (v2 : Int32) (v3 : Int32) (σ : ck_S) : Option (Int32 × ck_S) := (match f v1 v2 v3 ((upd (upd σ.1 5 0) 6 0), σ.2.1, σ.2.2.1, σ.2.2.2.1, σ.2.2.2.2.1, σ.2.2.2.2.2) with
  | none => none
  | some y1 => some (y1.1, y1.2))
theorem c_sp_Tk_weighAlone (hf : tw_IH l F a A D f) (hD : D ≤ d) {v1 : Option Nat} {v2 : Int32} {v3 : Int32} {σ : ck_S} {r : Int32 × ck_S} (hp : sp_Tk_weighAlone f v1 v2 v3 σ = some r) : ck_Has l F (d + 1) m_Tk_weighAlone tk_K a A [.ref a, va_rf v1, .int v2, .int v3] σ (fun w σ' => w = some (.int r.1) ∧ σ' = r.2) := by
  refine ck_meth (k := 0) (L := [some (.ref a), some (va_rf v1), some (.int v2), some (.int v3)]) pn_Tk (by cases v1 <;> rfl) (by cases v1 <;> exact (Nat.le_of_ble_eq_true rfl)) ?_
  unfold sp_Tk_weighAlone at hp
  refine ck_p (L' := [some (.ref a), some (va_rf v1), some (.int v2), some (.int v3)]) (st' := [.ref a]) k_Tk_weighAlone rfl rfl ?_
  refine ck_p (L' := [some (.ref a), some (va_rf v1), some (.int v2), some (.int v3)]) (st' := [.int 0, .ref a]) k_Tk_weighAlone rfl rfl ?_
  refine ck_pt k_Tk_weighAlone rfl rfl rfl trivial (Nat.le_of_ble_eq_true rfl) rfl ?_
  refine ck_p (L' := [some (.ref a), some (va_rf v1), some (.int v2), some (.int v3)]) (st' := [.ref a]) k_Tk_weighAlone rfl rfl ?_
  refine ck_p (L' := [some (.ref a), some (va_rf v1), some (.int v2), some (.int v3)]) (st' := [.int 0, .ref a]) k_Tk_weighAlone rfl rfl ?_
  refine ck_pt k_Tk_weighAlone rfl rfl rfl trivial (Nat.le_of_ble_eq_true rfl) rfl ?_
  refine ck_p (L' := [some (.ref a), some (va_rf v1), some (.int v2), some (.int v3)]) (st' := [.ref a]) k_Tk_weighAlone rfl rfl ?_
  refine ck_p (L' := [some (.ref a), some (va_rf v1), some (.int v2), some (.int v3)]) (st' := [va_rf v1, .ref a]) k_Tk_weighAlone rfl (by cases v1 <;> rfl) ?_
  refine ck_p (L' := [some (.ref a), some (va_rf v1), some (.int v2), some (.int v3)]) (st' := [.int v2, va_rf v1, .ref a]) k_Tk_weighAlone rfl rfl ?_
  refine ck_p (L' := [some (.ref a), some (va_rf v1), some (.int v2), some (.int v3)]) (st' := [.int v3, .int v2, va_rf v1, .ref a]) k_Tk_weighAlone rfl rfl ?_
  cases hy1 : f v1 v2 v3 ((upd (upd σ.1 5 0) 6 0), σ.2.1, σ.2.2.1, σ.2.2.2.1, σ.2.2.2.2.1, σ.2.2.2.2.2) with
  | none =>
    rw [hy1] at hp
    cases hp
  | some y1 =>
    rw [hy1] at hp
    try dsimp only at hp
    refine ck_ivB (M' := m_Tk_weigh) (As := [va_rf v1, .int v2, .int v3]) k_Tk_weighAlone rfl rfl rfl rfl rfl rfl rfl (Nat.le_of_ble_eq_true rfl) (hf _ _ _ _ _ _ (by omega) hy1) (fun hby1 => ?_)
    cases hp
    exact ck_ret (v := some (.int _)) k_Tk_weighAlone rfl rfl trivial rfl ⟨rfl, rfl⟩
def sp_Tk_weighBehind (f : Option Nat → Int32 → Int32 → ck_S → Option (Int32 × ck_S)) (v1 : Int32) (v2 : Option Nat) (v3 : Int32) (σ : ck_S) : Option (Int32 × ck_S) := (if ((q_Codes_canOf v1) &&& 1) = 0 then some (v1, σ) else (if v3 = 0 then (match f v2 1 0 σ with
  | none => none
  | some y3 => some ((q_Codes_pair (q_Codes_mustOf v1) (((q_Codes_canOf v1) &&& (-2)) ||| (q_Codes_canOf y3.1))), y3.2)) else (if ((q_Codes_mustOf v1) &&& 1) = 0 then (match f v2 1 0 σ with
  | none => none
  | some y6 => some ((q_Codes_pair (q_Codes_mustOf v1) (((q_Codes_canOf v1) &&& (-2)) ||| (q_Codes_canOf y6.1))), y6.2)) else (match f v2 1 1 σ with
  | none => none
  | some y8 => some ((q_Codes_pair (q_Codes_mustOf y8.1) (((q_Codes_canOf v1) &&& (-2)) ||| (q_Codes_canOf y8.1))), y8.2)))))
theorem c_sp_Tk_weighBehind (hf : tw_IH l F a A D f) (hD : D ≤ d) {v1 : Int32} {v2 : Option Nat} {v3 : Int32} {σ : ck_S} {r : Int32 × ck_S} (hp : sp_Tk_weighBehind f v1 v2 v3 σ = some r) : ck_Has l F (d + 1) m_Tk_weighBehind tk_K a A [.ref a, .int v1, va_rf v2, .int v3] σ (fun w σ' => w = some (.int r.1) ∧ σ' = r.2) := by
  refine ck_meth (k := 3) (L := [some (.ref a), some (.int v1), some (va_rf v2), some (.int v3), none, none, none]) pn_Tk (by cases v2 <;> rfl) (by cases v2 <;> exact (Nat.le_of_ble_eq_true rfl)) ?_
  unfold sp_Tk_weighBehind at hp
  refine ck_p (L' := [some (.ref a), some (.int v1), some (va_rf v2), some (.int v3), none, none, none]) (st' := [.int v1]) k_Tk_weighBehind rfl rfl ?_
  refine ck_isB (M' := m_Codes_canOf) (As := [.int v1]) k_Tk_weighBehind rfl rfl rfl rfl rfl rfl (Nat.le_of_ble_eq_true rfl) (c_q_Codes_canOf rfl) (fun _ => ?_)
  refine ck_p (L' := [some (.ref a), some (.int v1), some (va_rf v2), some (.int v3), none, none, none]) (st' := [.int 1, .int (q_Codes_canOf v1)]) k_Tk_weighBehind rfl rfl ?_
  refine ck_p (L' := [some (.ref a), some (.int v1), some (va_rf v2), some (.int v3), none, none, none]) (st' := [.int ((q_Codes_canOf v1) &&& 1)]) k_Tk_weighBehind rfl rfl ?_
  refine ck_if k_Tk_weighBehind rfl rfl rfl (fun h1 => ?_) (fun h1 => ?_)
  · skip
    rw [if_neg (show ¬ (((q_Codes_canOf v1) &&& 1) = 0) from h1)] at hp
    refine ck_p (L' := [some (.ref a), some (.int v1), some (va_rf v2), some (.int v3), none, none, none]) (st' := [.int v3]) k_Tk_weighBehind rfl rfl ?_
    refine ck_if k_Tk_weighBehind rfl rfl rfl (fun h2 => ?_) (fun h2 => ?_)
    · skip
      rw [if_pos (show v3 = 0 from h2)] at hp
      refine ck_p (L' := [some (.ref a), some (.int v1), some (va_rf v2), some (.int v3), none, none, none]) (st' := [.int 0]) k_Tk_weighBehind rfl rfl ?_
      refine ck_p (L' := [some (.ref a), some (.int v1), some (va_rf v2), some (.int v3), some (.int 0), none, none]) (st' := []) k_Tk_weighBehind rfl rfl ?_
      refine ck_p (L' := [some (.ref a), some (.int v1), some (va_rf v2), some (.int v3), some (.int 0), none, none]) (st' := [.ref a]) k_Tk_weighBehind rfl rfl ?_
      refine ck_p (L' := [some (.ref a), some (.int v1), some (va_rf v2), some (.int v3), some (.int 0), none, none]) (st' := [va_rf v2, .ref a]) k_Tk_weighBehind rfl (by cases v2 <;> rfl) ?_
      refine ck_p (L' := [some (.ref a), some (.int v1), some (va_rf v2), some (.int v3), some (.int 0), none, none]) (st' := [.int 1, va_rf v2, .ref a]) k_Tk_weighBehind rfl rfl ?_
      refine ck_p (L' := [some (.ref a), some (.int v1), some (va_rf v2), some (.int v3), some (.int 0), none, none]) (st' := [.int 0, .int 1, va_rf v2, .ref a]) k_Tk_weighBehind rfl rfl ?_
      cases hy3 : f v2 1 0 σ with
      | none =>
        rw [hy3] at hp
        cases hp
      | some y3 =>
        rw [hy3] at hp
        try dsimp only at hp
        refine ck_ivB (M' := m_Tk_weigh) (As := [va_rf v2, .int 1, .int 0]) k_Tk_weighBehind rfl rfl rfl rfl rfl rfl rfl (Nat.le_of_ble_eq_true rfl) (hf _ _ _ _ _ _ (by omega) hy3) (fun hby3 => ?_)
        refine ck_p (L' := [some (.ref a), some (.int v1), some (va_rf v2), some (.int v3), some (.int 0), some (.int y3.1), none]) (st' := []) k_Tk_weighBehind rfl rfl ?_
        refine ck_p (L' := [some (.ref a), some (.int v1), some (va_rf v2), some (.int v3), some (.int 0), some (.int y3.1), none]) (st' := [.int 0]) k_Tk_weighBehind rfl rfl ?_
        refine ck_if k_Tk_weighBehind rfl rfl rfl (fun h4 => ?_) (fun h4 => ?_)
        · skip
          refine ck_p (L' := [some (.ref a), some (.int v1), some (va_rf v2), some (.int v3), some (.int 0), some (.int y3.1), none]) (st' := [.int v1]) k_Tk_weighBehind rfl rfl ?_
          refine ck_isB (M' := m_Codes_mustOf) (As := [.int v1]) k_Tk_weighBehind rfl rfl rfl rfl rfl rfl (Nat.le_of_ble_eq_true rfl) (c_q_Codes_mustOf rfl) (fun _ => ?_)
          refine ck_p (L' := [some (.ref a), some (.int v1), some (va_rf v2), some (.int v3), some (.int 0), some (.int y3.1), some (.int (q_Codes_mustOf v1))]) (st' := []) k_Tk_weighBehind rfl rfl ?_
          refine ck_p (L' := [some (.ref a), some (.int v1), some (va_rf v2), some (.int v3), some (.int 0), some (.int y3.1), some (.int (q_Codes_mustOf v1))]) (st' := [.int (q_Codes_mustOf v1)]) k_Tk_weighBehind rfl rfl ?_
          refine ck_p (L' := [some (.ref a), some (.int v1), some (va_rf v2), some (.int v3), some (.int 0), some (.int y3.1), some (.int (q_Codes_mustOf v1))]) (st' := [.int v1, .int (q_Codes_mustOf v1)]) k_Tk_weighBehind rfl rfl ?_
          refine ck_isB (M' := m_Codes_canOf) (As := [.int v1]) k_Tk_weighBehind rfl rfl rfl rfl rfl rfl (Nat.le_of_ble_eq_true rfl) (c_q_Codes_canOf rfl) (fun _ => ?_)
          refine ck_p (L' := [some (.ref a), some (.int v1), some (va_rf v2), some (.int v3), some (.int 0), some (.int y3.1), some (.int (q_Codes_mustOf v1))]) (st' := [.int (-2), .int (q_Codes_canOf v1), .int (q_Codes_mustOf v1)]) k_Tk_weighBehind rfl rfl ?_
          refine ck_p (L' := [some (.ref a), some (.int v1), some (va_rf v2), some (.int v3), some (.int 0), some (.int y3.1), some (.int (q_Codes_mustOf v1))]) (st' := [.int ((q_Codes_canOf v1) &&& (-2)), .int (q_Codes_mustOf v1)]) k_Tk_weighBehind rfl rfl ?_
          refine ck_p (L' := [some (.ref a), some (.int v1), some (va_rf v2), some (.int v3), some (.int 0), some (.int y3.1), some (.int (q_Codes_mustOf v1))]) (st' := [.int y3.1, .int ((q_Codes_canOf v1) &&& (-2)), .int (q_Codes_mustOf v1)]) k_Tk_weighBehind rfl rfl ?_
          refine ck_isB (M' := m_Codes_canOf) (As := [.int y3.1]) k_Tk_weighBehind rfl rfl rfl rfl rfl rfl (Nat.le_of_ble_eq_true rfl) (c_q_Codes_canOf rfl) (fun _ => ?_)
          refine ck_p (L' := [some (.ref a), some (.int v1), some (va_rf v2), some (.int v3), some (.int 0), some (.int y3.1), some (.int (q_Codes_mustOf v1))]) (st' := [.int (((q_Codes_canOf v1) &&& (-2)) ||| (q_Codes_canOf y3.1)), .int (q_Codes_mustOf v1)]) k_Tk_weighBehind rfl rfl ?_
          refine ck_isB (M' := m_Codes_pair) (As := [.int (q_Codes_mustOf v1), .int (((q_Codes_canOf v1) &&& (-2)) ||| (q_Codes_canOf y3.1))]) k_Tk_weighBehind rfl rfl rfl rfl rfl rfl (Nat.le_of_ble_eq_true rfl) (c_q_Codes_pair rfl) (fun _ => ?_)
          cases hp
          exact ck_ret (v := some (.int _)) k_Tk_weighBehind rfl rfl trivial rfl ⟨rfl, rfl⟩
        · skip
          exact absurd h4 (by decide)
    · skip
      rw [if_neg (show ¬ (v3 = 0) from h2)] at hp
      refine ck_p (L' := [some (.ref a), some (.int v1), some (va_rf v2), some (.int v3), none, none, none]) (st' := [.int v1]) k_Tk_weighBehind rfl rfl ?_
      refine ck_isB (M' := m_Codes_mustOf) (As := [.int v1]) k_Tk_weighBehind rfl rfl rfl rfl rfl rfl (Nat.le_of_ble_eq_true rfl) (c_q_Codes_mustOf rfl) (fun _ => ?_)
      refine ck_p (L' := [some (.ref a), some (.int v1), some (va_rf v2), some (.int v3), none, none, none]) (st' := [.int 1, .int (q_Codes_mustOf v1)]) k_Tk_weighBehind rfl rfl ?_
      refine ck_p (L' := [some (.ref a), some (.int v1), some (va_rf v2), some (.int v3), none, none, none]) (st' := [.int ((q_Codes_mustOf v1) &&& 1)]) k_Tk_weighBehind rfl rfl ?_
      refine ck_if k_Tk_weighBehind rfl rfl rfl (fun h5 => ?_) (fun h5 => ?_)
      · skip
        rw [if_pos (show ((q_Codes_mustOf v1) &&& 1) = 0 from h5)] at hp
        refine ck_p (L' := [some (.ref a), some (.int v1), some (va_rf v2), some (.int v3), none, none, none]) (st' := [.int 0]) k_Tk_weighBehind rfl rfl ?_
        refine ck_p (L' := [some (.ref a), some (.int v1), some (va_rf v2), some (.int v3), some (.int 0), none, none]) (st' := []) k_Tk_weighBehind rfl rfl ?_
        refine ck_p (L' := [some (.ref a), some (.int v1), some (va_rf v2), some (.int v3), some (.int 0), none, none]) (st' := [.ref a]) k_Tk_weighBehind rfl rfl ?_
        refine ck_p (L' := [some (.ref a), some (.int v1), some (va_rf v2), some (.int v3), some (.int 0), none, none]) (st' := [va_rf v2, .ref a]) k_Tk_weighBehind rfl (by cases v2 <;> rfl) ?_
        refine ck_p (L' := [some (.ref a), some (.int v1), some (va_rf v2), some (.int v3), some (.int 0), none, none]) (st' := [.int 1, va_rf v2, .ref a]) k_Tk_weighBehind rfl rfl ?_
        refine ck_p (L' := [some (.ref a), some (.int v1), some (va_rf v2), some (.int v3), some (.int 0), none, none]) (st' := [.int 0, .int 1, va_rf v2, .ref a]) k_Tk_weighBehind rfl rfl ?_
        cases hy6 : f v2 1 0 σ with
        | none =>
          rw [hy6] at hp
          cases hp
        | some y6 =>
          rw [hy6] at hp
          try dsimp only at hp
          refine ck_ivB (M' := m_Tk_weigh) (As := [va_rf v2, .int 1, .int 0]) k_Tk_weighBehind rfl rfl rfl rfl rfl rfl rfl (Nat.le_of_ble_eq_true rfl) (hf _ _ _ _ _ _ (by omega) hy6) (fun hby6 => ?_)
          refine ck_p (L' := [some (.ref a), some (.int v1), some (va_rf v2), some (.int v3), some (.int 0), some (.int y6.1), none]) (st' := []) k_Tk_weighBehind rfl rfl ?_
          refine ck_p (L' := [some (.ref a), some (.int v1), some (va_rf v2), some (.int v3), some (.int 0), some (.int y6.1), none]) (st' := [.int 0]) k_Tk_weighBehind rfl rfl ?_
          refine ck_if k_Tk_weighBehind rfl rfl rfl (fun h7 => ?_) (fun h7 => ?_)
          · skip
            refine ck_p (L' := [some (.ref a), some (.int v1), some (va_rf v2), some (.int v3), some (.int 0), some (.int y6.1), none]) (st' := [.int v1]) k_Tk_weighBehind rfl rfl ?_
            refine ck_isB (M' := m_Codes_mustOf) (As := [.int v1]) k_Tk_weighBehind rfl rfl rfl rfl rfl rfl (Nat.le_of_ble_eq_true rfl) (c_q_Codes_mustOf rfl) (fun _ => ?_)
            refine ck_p (L' := [some (.ref a), some (.int v1), some (va_rf v2), some (.int v3), some (.int 0), some (.int y6.1), some (.int (q_Codes_mustOf v1))]) (st' := []) k_Tk_weighBehind rfl rfl ?_
            refine ck_p (L' := [some (.ref a), some (.int v1), some (va_rf v2), some (.int v3), some (.int 0), some (.int y6.1), some (.int (q_Codes_mustOf v1))]) (st' := [.int (q_Codes_mustOf v1)]) k_Tk_weighBehind rfl rfl ?_
            refine ck_p (L' := [some (.ref a), some (.int v1), some (va_rf v2), some (.int v3), some (.int 0), some (.int y6.1), some (.int (q_Codes_mustOf v1))]) (st' := [.int v1, .int (q_Codes_mustOf v1)]) k_Tk_weighBehind rfl rfl ?_
            refine ck_isB (M' := m_Codes_canOf) (As := [.int v1]) k_Tk_weighBehind rfl rfl rfl rfl rfl rfl (Nat.le_of_ble_eq_true rfl) (c_q_Codes_canOf rfl) (fun _ => ?_)
            refine ck_p (L' := [some (.ref a), some (.int v1), some (va_rf v2), some (.int v3), some (.int 0), some (.int y6.1), some (.int (q_Codes_mustOf v1))]) (st' := [.int (-2), .int (q_Codes_canOf v1), .int (q_Codes_mustOf v1)]) k_Tk_weighBehind rfl rfl ?_
            refine ck_p (L' := [some (.ref a), some (.int v1), some (va_rf v2), some (.int v3), some (.int 0), some (.int y6.1), some (.int (q_Codes_mustOf v1))]) (st' := [.int ((q_Codes_canOf v1) &&& (-2)), .int (q_Codes_mustOf v1)]) k_Tk_weighBehind rfl rfl ?_
            refine ck_p (L' := [some (.ref a), some (.int v1), some (va_rf v2), some (.int v3), some (.int 0), some (.int y6.1), some (.int (q_Codes_mustOf v1))]) (st' := [.int y6.1, .int ((q_Codes_canOf v1) &&& (-2)), .int (q_Codes_mustOf v1)]) k_Tk_weighBehind rfl rfl ?_
            refine ck_isB (M' := m_Codes_canOf) (As := [.int y6.1]) k_Tk_weighBehind rfl rfl rfl rfl rfl rfl (Nat.le_of_ble_eq_true rfl) (c_q_Codes_canOf rfl) (fun _ => ?_)
            refine ck_p (L' := [some (.ref a), some (.int v1), some (va_rf v2), some (.int v3), some (.int 0), some (.int y6.1), some (.int (q_Codes_mustOf v1))]) (st' := [.int (((q_Codes_canOf v1) &&& (-2)) ||| (q_Codes_canOf y6.1)), .int (q_Codes_mustOf v1)]) k_Tk_weighBehind rfl rfl ?_
            refine ck_isB (M' := m_Codes_pair) (As := [.int (q_Codes_mustOf v1), .int (((q_Codes_canOf v1) &&& (-2)) ||| (q_Codes_canOf y6.1))]) k_Tk_weighBehind rfl rfl rfl rfl rfl rfl (Nat.le_of_ble_eq_true rfl) (c_q_Codes_pair rfl) (fun _ => ?_)
            cases hp
            exact ck_ret (v := some (.int _)) k_Tk_weighBehind rfl rfl trivial rfl ⟨rfl, rfl⟩
          · skip
            exact absurd h7 (by decide)
      · skip
        rw [if_neg (show ¬ (((q_Codes_mustOf v1) &&& 1) = 0) from h5)] at hp
        refine ck_p (L' := [some (.ref a), some (.int v1), some (va_rf v2), some (.int v3), none, none, none]) (st' := [.int 1]) k_Tk_weighBehind rfl rfl ?_
        refine ck_j k_Tk_weighBehind rfl rfl ?_
        refine ck_p (L' := [some (.ref a), some (.int v1), some (va_rf v2), some (.int v3), some (.int 1), none, none]) (st' := []) k_Tk_weighBehind rfl rfl ?_
        refine ck_p (L' := [some (.ref a), some (.int v1), some (va_rf v2), some (.int v3), some (.int 1), none, none]) (st' := [.ref a]) k_Tk_weighBehind rfl rfl ?_
        refine ck_p (L' := [some (.ref a), some (.int v1), some (va_rf v2), some (.int v3), some (.int 1), none, none]) (st' := [va_rf v2, .ref a]) k_Tk_weighBehind rfl (by cases v2 <;> rfl) ?_
        refine ck_p (L' := [some (.ref a), some (.int v1), some (va_rf v2), some (.int v3), some (.int 1), none, none]) (st' := [.int 1, va_rf v2, .ref a]) k_Tk_weighBehind rfl rfl ?_
        refine ck_p (L' := [some (.ref a), some (.int v1), some (va_rf v2), some (.int v3), some (.int 1), none, none]) (st' := [.int 1, .int 1, va_rf v2, .ref a]) k_Tk_weighBehind rfl rfl ?_
        cases hy8 : f v2 1 1 σ with
        | none =>
          rw [hy8] at hp
          cases hp
        | some y8 =>
          rw [hy8] at hp
          try dsimp only at hp
          refine ck_ivB (M' := m_Tk_weigh) (As := [va_rf v2, .int 1, .int 1]) k_Tk_weighBehind rfl rfl rfl rfl rfl rfl rfl (Nat.le_of_ble_eq_true rfl) (hf _ _ _ _ _ _ (by omega) hy8) (fun hby8 => ?_)
          refine ck_p (L' := [some (.ref a), some (.int v1), some (va_rf v2), some (.int v3), some (.int 1), some (.int y8.1), none]) (st' := []) k_Tk_weighBehind rfl rfl ?_
          refine ck_p (L' := [some (.ref a), some (.int v1), some (va_rf v2), some (.int v3), some (.int 1), some (.int y8.1), none]) (st' := [.int 1]) k_Tk_weighBehind rfl rfl ?_
          refine ck_if k_Tk_weighBehind rfl rfl rfl (fun h9 => ?_) (fun h9 => ?_)
          · skip
            exact absurd h9 (by decide)
          · skip
            refine ck_p (L' := [some (.ref a), some (.int v1), some (va_rf v2), some (.int v3), some (.int 1), some (.int y8.1), none]) (st' := [.int y8.1]) k_Tk_weighBehind rfl rfl ?_
            refine ck_isB (M' := m_Codes_mustOf) (As := [.int y8.1]) k_Tk_weighBehind rfl rfl rfl rfl rfl rfl (Nat.le_of_ble_eq_true rfl) (c_q_Codes_mustOf rfl) (fun _ => ?_)
            refine ck_j k_Tk_weighBehind rfl rfl ?_
            refine ck_p (L' := [some (.ref a), some (.int v1), some (va_rf v2), some (.int v3), some (.int 1), some (.int y8.1), some (.int (q_Codes_mustOf y8.1))]) (st' := []) k_Tk_weighBehind rfl rfl ?_
            refine ck_p (L' := [some (.ref a), some (.int v1), some (va_rf v2), some (.int v3), some (.int 1), some (.int y8.1), some (.int (q_Codes_mustOf y8.1))]) (st' := [.int (q_Codes_mustOf y8.1)]) k_Tk_weighBehind rfl rfl ?_
            refine ck_p (L' := [some (.ref a), some (.int v1), some (va_rf v2), some (.int v3), some (.int 1), some (.int y8.1), some (.int (q_Codes_mustOf y8.1))]) (st' := [.int v1, .int (q_Codes_mustOf y8.1)]) k_Tk_weighBehind rfl rfl ?_
            refine ck_isB (M' := m_Codes_canOf) (As := [.int v1]) k_Tk_weighBehind rfl rfl rfl rfl rfl rfl (Nat.le_of_ble_eq_true rfl) (c_q_Codes_canOf rfl) (fun _ => ?_)
            refine ck_p (L' := [some (.ref a), some (.int v1), some (va_rf v2), some (.int v3), some (.int 1), some (.int y8.1), some (.int (q_Codes_mustOf y8.1))]) (st' := [.int (-2), .int (q_Codes_canOf v1), .int (q_Codes_mustOf y8.1)]) k_Tk_weighBehind rfl rfl ?_
            refine ck_p (L' := [some (.ref a), some (.int v1), some (va_rf v2), some (.int v3), some (.int 1), some (.int y8.1), some (.int (q_Codes_mustOf y8.1))]) (st' := [.int ((q_Codes_canOf v1) &&& (-2)), .int (q_Codes_mustOf y8.1)]) k_Tk_weighBehind rfl rfl ?_
            refine ck_p (L' := [some (.ref a), some (.int v1), some (va_rf v2), some (.int v3), some (.int 1), some (.int y8.1), some (.int (q_Codes_mustOf y8.1))]) (st' := [.int y8.1, .int ((q_Codes_canOf v1) &&& (-2)), .int (q_Codes_mustOf y8.1)]) k_Tk_weighBehind rfl rfl ?_
            refine ck_isB (M' := m_Codes_canOf) (As := [.int y8.1]) k_Tk_weighBehind rfl rfl rfl rfl rfl rfl (Nat.le_of_ble_eq_true rfl) (c_q_Codes_canOf rfl) (fun _ => ?_)
            refine ck_p (L' := [some (.ref a), some (.int v1), some (va_rf v2), some (.int v3), some (.int 1), some (.int y8.1), some (.int (q_Codes_mustOf y8.1))]) (st' := [.int (((q_Codes_canOf v1) &&& (-2)) ||| (q_Codes_canOf y8.1)), .int (q_Codes_mustOf y8.1)]) k_Tk_weighBehind rfl rfl ?_
            refine ck_isB (M' := m_Codes_pair) (As := [.int (q_Codes_mustOf y8.1), .int (((q_Codes_canOf v1) &&& (-2)) ||| (q_Codes_canOf y8.1))]) k_Tk_weighBehind rfl rfl rfl rfl rfl rfl (Nat.le_of_ble_eq_true rfl) (c_q_Codes_pair rfl) (fun _ => ?_)
            cases hp
            exact ck_ret (v := some (.int _)) k_Tk_weighBehind rfl rfl trivial rfl ⟨rfl, rfl⟩
  · skip
    rw [if_pos (show ((q_Codes_canOf v1) &&& 1) = 0 from h1)] at hp
    refine ck_p (L' := [some (.ref a), some (.int v1), some (va_rf v2), some (.int v3), none, none, none]) (st' := [.int v1]) k_Tk_weighBehind rfl rfl ?_
    cases hp
    exact ck_ret (v := some (.int _)) k_Tk_weighBehind rfl rfl trivial rfl ⟨rfl, rfl⟩
def sp_Tk_weighAsk (f : Option Nat → Int32 → Int32 → ck_S → Option (Int32 × ck_S)) (v1 : Option Nat) (v2 : Int32) (v3 : Int32) (σ : ck_S) : Option (Int32 × ck_S) := (match v1 with
  | none => none
  | some b1 => (match egR σ.2.2.2.1 b1 2 2 with
  | none => none
  | some y2 => (match y2 with
  | none => (if v2 = 0 then (if eo σ.2.2.2.1 b1 2 = true then (match sp_Node_partThatStands  b1 (σ.1 2) σ with
  | none => none
  | some y14 => (match f y14.1 0 v3 y14.2 with
  | none => none
  | some y15 => some (y15.1, y15.2))) else none) else (match egI σ.2.2.2.1 b1 2 1 with
  | none => none
  | some y5 => (if ((σ.1 3) &&& y5) = 0 then (if ((σ.1 4) &&& y5) = 0 then (match f none 1 0 σ with
  | none => none
  | some y9 => (match f none 1 0 y9.2 with
  | none => none
  | some y10 => some ((y9.1 ||| y10.1), y10.2))) else (match f none 1 v3 σ with
  | none => none
  | some y11 => some (y11.1, y11.2))) else (match f none 1 v3 σ with
  | none => none
  | some y12 => some (y12.1, y12.2)))))
  | some b3 => (match egR σ.2.2.2.1 b3 2 5 with
  | none => none
  | some y16 => (if v2 = 0 then (if eo σ.2.2.2.1 b1 2 = true then (match sp_Node_partThatStands  b1 (σ.1 2) σ with
  | none => none
  | some y27 => (match f y27.1 0 v3 y27.2 with
  | none => none
  | some y28 => some (y28.1, y28.2))) else none) else (match egI σ.2.2.2.1 b1 2 1 with
  | none => none
  | some y18 => (if ((σ.1 3) &&& y18) = 0 then (if ((σ.1 4) &&& y18) = 0 then (match f (some b3) 1 0 σ with
  | none => none
  | some y22 => (match f y16 1 0 y22.2 with
  | none => none
  | some y23 => some ((y22.1 ||| y23.1), y23.2))) else (match f y16 1 v3 σ with
  | none => none
  | some y24 => some (y24.1, y24.2))) else (match f (some b3) 1 v3 σ with
  | none => none
  | some y25 => some (y25.1, y25.2)))))))))
theorem c_sp_Tk_weighAsk (hf : tw_IH l F a A D f) (hD : D ≤ d) {v1 : Option Nat} {v2 : Int32} {v3 : Int32} {σ : ck_S} {r : Int32 × ck_S} (hp : sp_Tk_weighAsk f v1 v2 v3 σ = some r) : ck_Has l F (d + 2) m_Tk_weighAsk tk_K a A [.ref a, va_rf v1, .int v2, .int v3] σ (fun w σ' => w = some (.int r.1) ∧ σ' = r.2) := by
  refine ck_meth (k := 2) (L := [some (.ref a), some (va_rf v1), some (.int v2), some (.int v3), none, none]) pn_Tk (by cases v1 <;> rfl) (by cases v1 <;> exact (Nat.le_of_ble_eq_true rfl)) ?_
  unfold sp_Tk_weighAsk at hp
  refine ck_p (L' := [some (.ref a), some (va_rf v1), some (.int v2), some (.int v3), none, none]) (st' := [va_rf v1]) k_Tk_weighAsk rfl (by cases v1 <;> rfl) ?_
  cases v1 with
  | none =>
    try dsimp only at hp
    cases hp
  | some b1 =>
    try dsimp only at hp
    cases hy2 : egR σ.2.2.2.1 b1 2 2 with
    | none =>
      rw [hy2] at hp
      cases hp
    | some y2 =>
      rw [hy2] at hp
      try dsimp only at hp
      refine ck_gE k_Tk_weighAsk rfl rfl rfl (egR_of hy2) ?_
      refine ck_p (L' := [some (.ref a), some (.ref b1), some (.int v2), some (.int v3), some (va_rf y2), none]) (st' := []) k_Tk_weighAsk rfl (by cases y2 <;> rfl) ?_
      refine ck_p (L' := [some (.ref a), some (.ref b1), some (.int v2), some (.int v3), some (va_rf y2), none]) (st' := [va_rf y2]) k_Tk_weighAsk rfl (by cases y2 <;> rfl) ?_
      cases y2 with
      | none =>
        try dsimp only at hp
        refine ck_j k_Tk_weighAsk rfl rfl ?_
        refine ck_p (L' := [some (.ref a), some (.ref b1), some (.int v2), some (.int v3), some (.null), none]) (st' := [.null]) k_Tk_weighAsk rfl rfl ?_
        refine ck_j k_Tk_weighAsk rfl rfl ?_
        refine ck_p (L' := [some (.ref a), some (.ref b1), some (.int v2), some (.int v3), some (.null), some (.null)]) (st' := []) k_Tk_weighAsk rfl rfl ?_
        refine ck_p (L' := [some (.ref a), some (.ref b1), some (.int v2), some (.int v3), some (.null), some (.null)]) (st' := [.int v2]) k_Tk_weighAsk rfl rfl ?_
        refine ck_if k_Tk_weighAsk rfl rfl rfl (fun h4 => ?_) (fun h4 => ?_)
        · skip
          rw [if_neg (show ¬ (v2 = 0) from h4)] at hp
          refine ck_p (L' := [some (.ref a), some (.ref b1), some (.int v2), some (.int v3), some (.null), some (.null)]) (st' := [.ref a]) k_Tk_weighAsk rfl rfl ?_
          refine ck_g k_Tk_weighAsk rfl rfl rfl rfl ?_
          refine ck_p (L' := [some (.ref a), some (.ref b1), some (.int v2), some (.int v3), some (.null), some (.null)]) (st' := [.ref b1, .int (σ.1 3)]) k_Tk_weighAsk rfl rfl ?_
          cases hy5 : egI σ.2.2.2.1 b1 2 1 with
          | none =>
            rw [hy5] at hp
            cases hp
          | some y5 =>
            rw [hy5] at hp
            try dsimp only at hp
            refine ck_gE k_Tk_weighAsk rfl rfl rfl (egI_of hy5) ?_
            refine ck_p (L' := [some (.ref a), some (.ref b1), some (.int v2), some (.int v3), some (.null), some (.null)]) (st' := [.int ((σ.1 3) &&& y5)]) k_Tk_weighAsk rfl rfl ?_
            refine ck_if k_Tk_weighAsk rfl rfl rfl (fun h6 => ?_) (fun h6 => ?_)
            · skip
              rw [if_pos (show ((σ.1 3) &&& y5) = 0 from h6)] at hp
              refine ck_p (L' := [some (.ref a), some (.ref b1), some (.int v2), some (.int v3), some (.null), some (.null)]) (st' := [.ref a]) k_Tk_weighAsk rfl rfl ?_
              refine ck_g k_Tk_weighAsk rfl rfl rfl rfl ?_
              refine ck_p (L' := [some (.ref a), some (.ref b1), some (.int v2), some (.int v3), some (.null), some (.null)]) (st' := [.ref b1, .int (σ.1 4)]) k_Tk_weighAsk rfl rfl ?_
              refine ck_gE k_Tk_weighAsk rfl rfl rfl (egI_of hy5) ?_
              refine ck_p (L' := [some (.ref a), some (.ref b1), some (.int v2), some (.int v3), some (.null), some (.null)]) (st' := [.int ((σ.1 4) &&& y5)]) k_Tk_weighAsk rfl rfl ?_
              refine ck_if k_Tk_weighAsk rfl rfl rfl (fun h8 => ?_) (fun h8 => ?_)
              · skip
                rw [if_pos (show ((σ.1 4) &&& y5) = 0 from h8)] at hp
                refine ck_p (L' := [some (.ref a), some (.ref b1), some (.int v2), some (.int v3), some (.null), some (.null)]) (st' := [.ref a]) k_Tk_weighAsk rfl rfl ?_
                refine ck_p (L' := [some (.ref a), some (.ref b1), some (.int v2), some (.int v3), some (.null), some (.null)]) (st' := [.null, .ref a]) k_Tk_weighAsk rfl rfl ?_
                refine ck_p (L' := [some (.ref a), some (.ref b1), some (.int v2), some (.int v3), some (.null), some (.null)]) (st' := [.int 1, .null, .ref a]) k_Tk_weighAsk rfl rfl ?_
                refine ck_p (L' := [some (.ref a), some (.ref b1), some (.int v2), some (.int v3), some (.null), some (.null)]) (st' := [.int 0, .int 1, .null, .ref a]) k_Tk_weighAsk rfl rfl ?_
                cases hy9 : f none 1 0 σ with
                | none =>
                  rw [hy9] at hp
                  cases hp
                | some y9 =>
                  rw [hy9] at hp
                  try dsimp only at hp
                  refine ck_ivB (M' := m_Tk_weigh) (As := [.null, .int 1, .int 0]) k_Tk_weighAsk rfl rfl rfl rfl rfl rfl rfl (Nat.le_of_ble_eq_true rfl) (hf _ _ _ _ _ _ (by omega) hy9) (fun hby9 => ?_)
                  refine ck_p (L' := [some (.ref a), some (.ref b1), some (.int v2), some (.int v3), some (.null), some (.null)]) (st' := [.ref a, .int y9.1]) k_Tk_weighAsk rfl rfl ?_
                  refine ck_p (L' := [some (.ref a), some (.ref b1), some (.int v2), some (.int v3), some (.null), some (.null)]) (st' := [.null, .ref a, .int y9.1]) k_Tk_weighAsk rfl rfl ?_
                  refine ck_p (L' := [some (.ref a), some (.ref b1), some (.int v2), some (.int v3), some (.null), some (.null)]) (st' := [.int 1, .null, .ref a, .int y9.1]) k_Tk_weighAsk rfl rfl ?_
                  refine ck_p (L' := [some (.ref a), some (.ref b1), some (.int v2), some (.int v3), some (.null), some (.null)]) (st' := [.int 0, .int 1, .null, .ref a, .int y9.1]) k_Tk_weighAsk rfl rfl ?_
                  cases hy10 : f none 1 0 y9.2 with
                  | none =>
                    rw [hy10] at hp
                    cases hp
                  | some y10 =>
                    rw [hy10] at hp
                    try dsimp only at hp
                    refine ck_ivB (M' := m_Tk_weigh) (As := [.null, .int 1, .int 0]) k_Tk_weighAsk rfl rfl rfl rfl rfl rfl rfl (Nat.le_of_ble_eq_true rfl) (hf _ _ _ _ _ _ (by omega) hy10) (fun hby10 => ?_)
                    refine ck_p (L' := [some (.ref a), some (.ref b1), some (.int v2), some (.int v3), some (.null), some (.null)]) (st' := [.int (y9.1 ||| y10.1)]) k_Tk_weighAsk rfl rfl ?_
                    cases hp
                    exact ck_ret (v := some (.int _)) k_Tk_weighAsk rfl rfl trivial rfl ⟨rfl, rfl⟩
              · skip
                rw [if_neg (show ¬ (((σ.1 4) &&& y5) = 0) from h8)] at hp
                refine ck_p (L' := [some (.ref a), some (.ref b1), some (.int v2), some (.int v3), some (.null), some (.null)]) (st' := [.ref a]) k_Tk_weighAsk rfl rfl ?_
                refine ck_p (L' := [some (.ref a), some (.ref b1), some (.int v2), some (.int v3), some (.null), some (.null)]) (st' := [.null, .ref a]) k_Tk_weighAsk rfl rfl ?_
                refine ck_p (L' := [some (.ref a), some (.ref b1), some (.int v2), some (.int v3), some (.null), some (.null)]) (st' := [.int 1, .null, .ref a]) k_Tk_weighAsk rfl rfl ?_
                refine ck_p (L' := [some (.ref a), some (.ref b1), some (.int v2), some (.int v3), some (.null), some (.null)]) (st' := [.int v3, .int 1, .null, .ref a]) k_Tk_weighAsk rfl rfl ?_
                cases hy11 : f none 1 v3 σ with
                | none =>
                  rw [hy11] at hp
                  cases hp
                | some y11 =>
                  rw [hy11] at hp
                  try dsimp only at hp
                  refine ck_ivB (M' := m_Tk_weigh) (As := [.null, .int 1, .int v3]) k_Tk_weighAsk rfl rfl rfl rfl rfl rfl rfl (Nat.le_of_ble_eq_true rfl) (hf _ _ _ _ _ _ (by omega) hy11) (fun hby11 => ?_)
                  cases hp
                  exact ck_ret (v := some (.int _)) k_Tk_weighAsk rfl rfl trivial rfl ⟨rfl, rfl⟩
            · skip
              rw [if_neg (show ¬ (((σ.1 3) &&& y5) = 0) from h6)] at hp
              refine ck_p (L' := [some (.ref a), some (.ref b1), some (.int v2), some (.int v3), some (.null), some (.null)]) (st' := [.ref a]) k_Tk_weighAsk rfl rfl ?_
              refine ck_p (L' := [some (.ref a), some (.ref b1), some (.int v2), some (.int v3), some (.null), some (.null)]) (st' := [.null, .ref a]) k_Tk_weighAsk rfl rfl ?_
              refine ck_p (L' := [some (.ref a), some (.ref b1), some (.int v2), some (.int v3), some (.null), some (.null)]) (st' := [.int 1, .null, .ref a]) k_Tk_weighAsk rfl rfl ?_
              refine ck_p (L' := [some (.ref a), some (.ref b1), some (.int v2), some (.int v3), some (.null), some (.null)]) (st' := [.int v3, .int 1, .null, .ref a]) k_Tk_weighAsk rfl rfl ?_
              cases hy12 : f none 1 v3 σ with
              | none =>
                rw [hy12] at hp
                cases hp
              | some y12 =>
                rw [hy12] at hp
                try dsimp only at hp
                refine ck_ivB (M' := m_Tk_weigh) (As := [.null, .int 1, .int v3]) k_Tk_weighAsk rfl rfl rfl rfl rfl rfl rfl (Nat.le_of_ble_eq_true rfl) (hf _ _ _ _ _ _ (by omega) hy12) (fun hby12 => ?_)
                cases hp
                exact ck_ret (v := some (.int _)) k_Tk_weighAsk rfl rfl trivial rfl ⟨rfl, rfl⟩
        · skip
          rw [if_pos (show v2 = 0 from h4)] at hp
          refine ck_p (L' := [some (.ref a), some (.ref b1), some (.int v2), some (.int v3), some (.null), some (.null)]) (st' := [.ref a]) k_Tk_weighAsk rfl rfl ?_
          refine ck_p (L' := [some (.ref a), some (.ref b1), some (.int v2), some (.int v3), some (.null), some (.null)]) (st' := [.ref b1, .ref a]) k_Tk_weighAsk rfl rfl ?_
          refine ck_p (L' := [some (.ref a), some (.ref b1), some (.int v2), some (.int v3), some (.null), some (.null)]) (st' := [.ref a, .ref b1, .ref a]) k_Tk_weighAsk rfl rfl ?_
          refine ck_g k_Tk_weighAsk rfl rfl rfl rfl ?_
          by_cases g13 : eo σ.2.2.2.1 b1 2 = true
          · rw [if_pos g13] at hp
            cases hy14 : sp_Node_partThatStands  b1 (σ.1 2) σ with
            | none =>
              rw [hy14] at hp
              cases hp
            | some y14 =>
              rw [hy14] at hp
              try dsimp only at hp
              refine ck_ivO (M' := m_Node_partThatStands) (As := [.int (σ.1 2)]) k_Tk_weighAsk rfl rfl rfl rfl rfl g13 rfl rfl (Nat.le_of_ble_eq_true rfl) (c_sp_Node_partThatStands  hy14) (fun hby14 => ?_)
              refine ck_p (L' := [some (.ref a), some (.ref b1), some (.int v2), some (.int v3), some (.null), some (.null)]) (st' := [.int 0, va_rf y14.1, .ref a]) k_Tk_weighAsk rfl rfl ?_
              refine ck_p (L' := [some (.ref a), some (.ref b1), some (.int v2), some (.int v3), some (.null), some (.null)]) (st' := [.int v3, .int 0, va_rf y14.1, .ref a]) k_Tk_weighAsk rfl rfl ?_
              cases hy15 : f y14.1 0 v3 y14.2 with
              | none =>
                rw [hy15] at hp
                cases hp
              | some y15 =>
                rw [hy15] at hp
                try dsimp only at hp
                refine ck_ivB (M' := m_Tk_weigh) (As := [va_rf y14.1, .int 0, .int v3]) k_Tk_weighAsk rfl rfl rfl rfl rfl rfl rfl (Nat.le_of_ble_eq_true rfl) (hf _ _ _ _ _ _ (by omega) hy15) (fun hby15 => ?_)
                cases hp
                exact ck_ret (v := some (.int _)) k_Tk_weighAsk rfl rfl trivial rfl ⟨rfl, rfl⟩
          · rw [if_neg g13] at hp
            cases hp
      | some b3 =>
        try dsimp only at hp
        refine ck_j k_Tk_weighAsk rfl rfl ?_
        refine ck_p (L' := [some (.ref a), some (.ref b1), some (.int v2), some (.int v3), some (.ref b3), none]) (st' := [.ref b3]) k_Tk_weighAsk rfl rfl ?_
        cases hy16 : egR σ.2.2.2.1 b3 2 5 with
        | none =>
          rw [hy16] at hp
          cases hp
        | some y16 =>
          rw [hy16] at hp
          try dsimp only at hp
          refine ck_gE k_Tk_weighAsk rfl rfl rfl (egR_of hy16) ?_
          refine ck_p (L' := [some (.ref a), some (.ref b1), some (.int v2), some (.int v3), some (.ref b3), some (va_rf y16)]) (st' := []) k_Tk_weighAsk rfl (by cases y16 <;> rfl) ?_
          refine ck_p (L' := [some (.ref a), some (.ref b1), some (.int v2), some (.int v3), some (.ref b3), some (va_rf y16)]) (st' := [.int v2]) k_Tk_weighAsk rfl rfl ?_
          refine ck_if k_Tk_weighAsk rfl rfl rfl (fun h17 => ?_) (fun h17 => ?_)
          · skip
            rw [if_neg (show ¬ (v2 = 0) from h17)] at hp
            refine ck_p (L' := [some (.ref a), some (.ref b1), some (.int v2), some (.int v3), some (.ref b3), some (va_rf y16)]) (st' := [.ref a]) k_Tk_weighAsk rfl rfl ?_
            refine ck_g k_Tk_weighAsk rfl rfl rfl rfl ?_
            refine ck_p (L' := [some (.ref a), some (.ref b1), some (.int v2), some (.int v3), some (.ref b3), some (va_rf y16)]) (st' := [.ref b1, .int (σ.1 3)]) k_Tk_weighAsk rfl rfl ?_
            cases hy18 : egI σ.2.2.2.1 b1 2 1 with
            | none =>
              rw [hy18] at hp
              cases hp
            | some y18 =>
              rw [hy18] at hp
              try dsimp only at hp
              refine ck_gE k_Tk_weighAsk rfl rfl rfl (egI_of hy18) ?_
              refine ck_p (L' := [some (.ref a), some (.ref b1), some (.int v2), some (.int v3), some (.ref b3), some (va_rf y16)]) (st' := [.int ((σ.1 3) &&& y18)]) k_Tk_weighAsk rfl rfl ?_
              refine ck_if k_Tk_weighAsk rfl rfl rfl (fun h19 => ?_) (fun h19 => ?_)
              · skip
                rw [if_pos (show ((σ.1 3) &&& y18) = 0 from h19)] at hp
                refine ck_p (L' := [some (.ref a), some (.ref b1), some (.int v2), some (.int v3), some (.ref b3), some (va_rf y16)]) (st' := [.ref a]) k_Tk_weighAsk rfl rfl ?_
                refine ck_g k_Tk_weighAsk rfl rfl rfl rfl ?_
                refine ck_p (L' := [some (.ref a), some (.ref b1), some (.int v2), some (.int v3), some (.ref b3), some (va_rf y16)]) (st' := [.ref b1, .int (σ.1 4)]) k_Tk_weighAsk rfl rfl ?_
                refine ck_gE k_Tk_weighAsk rfl rfl rfl (egI_of hy18) ?_
                refine ck_p (L' := [some (.ref a), some (.ref b1), some (.int v2), some (.int v3), some (.ref b3), some (va_rf y16)]) (st' := [.int ((σ.1 4) &&& y18)]) k_Tk_weighAsk rfl rfl ?_
                refine ck_if k_Tk_weighAsk rfl rfl rfl (fun h21 => ?_) (fun h21 => ?_)
                · skip
                  rw [if_pos (show ((σ.1 4) &&& y18) = 0 from h21)] at hp
                  refine ck_p (L' := [some (.ref a), some (.ref b1), some (.int v2), some (.int v3), some (.ref b3), some (va_rf y16)]) (st' := [.ref a]) k_Tk_weighAsk rfl rfl ?_
                  refine ck_p (L' := [some (.ref a), some (.ref b1), some (.int v2), some (.int v3), some (.ref b3), some (va_rf y16)]) (st' := [.ref b3, .ref a]) k_Tk_weighAsk rfl rfl ?_
                  refine ck_p (L' := [some (.ref a), some (.ref b1), some (.int v2), some (.int v3), some (.ref b3), some (va_rf y16)]) (st' := [.int 1, .ref b3, .ref a]) k_Tk_weighAsk rfl rfl ?_
                  refine ck_p (L' := [some (.ref a), some (.ref b1), some (.int v2), some (.int v3), some (.ref b3), some (va_rf y16)]) (st' := [.int 0, .int 1, .ref b3, .ref a]) k_Tk_weighAsk rfl rfl ?_
                  cases hy22 : f (some b3) 1 0 σ with
                  | none =>
                    rw [hy22] at hp
                    cases hp
                  | some y22 =>
                    rw [hy22] at hp
                    try dsimp only at hp
                    refine ck_ivB (M' := m_Tk_weigh) (As := [.ref b3, .int 1, .int 0]) k_Tk_weighAsk rfl rfl rfl rfl rfl rfl rfl (Nat.le_of_ble_eq_true rfl) (hf _ _ _ _ _ _ (by omega) hy22) (fun hby22 => ?_)
                    refine ck_p (L' := [some (.ref a), some (.ref b1), some (.int v2), some (.int v3), some (.ref b3), some (va_rf y16)]) (st' := [.ref a, .int y22.1]) k_Tk_weighAsk rfl rfl ?_
                    refine ck_p (L' := [some (.ref a), some (.ref b1), some (.int v2), some (.int v3), some (.ref b3), some (va_rf y16)]) (st' := [va_rf y16, .ref a, .int y22.1]) k_Tk_weighAsk rfl (by cases y16 <;> rfl) ?_
                    refine ck_p (L' := [some (.ref a), some (.ref b1), some (.int v2), some (.int v3), some (.ref b3), some (va_rf y16)]) (st' := [.int 1, va_rf y16, .ref a, .int y22.1]) k_Tk_weighAsk rfl rfl ?_
                    refine ck_p (L' := [some (.ref a), some (.ref b1), some (.int v2), some (.int v3), some (.ref b3), some (va_rf y16)]) (st' := [.int 0, .int 1, va_rf y16, .ref a, .int y22.1]) k_Tk_weighAsk rfl rfl ?_
                    cases hy23 : f y16 1 0 y22.2 with
                    | none =>
                      rw [hy23] at hp
                      cases hp
                    | some y23 =>
                      rw [hy23] at hp
                      try dsimp only at hp
                      refine ck_ivB (M' := m_Tk_weigh) (As := [va_rf y16, .int 1, .int 0]) k_Tk_weighAsk rfl rfl rfl rfl rfl rfl rfl (Nat.le_of_ble_eq_true rfl) (hf _ _ _ _ _ _ (by omega) hy23) (fun hby23 => ?_)
                      refine ck_p (L' := [some (.ref a), some (.ref b1), some (.int v2), some (.int v3), some (.ref b3), some (va_rf y16)]) (st' := [.int (y22.1 ||| y23.1)]) k_Tk_weighAsk rfl rfl ?_
                      cases hp
                      exact ck_ret (v := some (.int _)) k_Tk_weighAsk rfl rfl trivial rfl ⟨rfl, rfl⟩
                · skip
                  rw [if_neg (show ¬ (((σ.1 4) &&& y18) = 0) from h21)] at hp
                  refine ck_p (L' := [some (.ref a), some (.ref b1), some (.int v2), some (.int v3), some (.ref b3), some (va_rf y16)]) (st' := [.ref a]) k_Tk_weighAsk rfl rfl ?_
                  refine ck_p (L' := [some (.ref a), some (.ref b1), some (.int v2), some (.int v3), some (.ref b3), some (va_rf y16)]) (st' := [va_rf y16, .ref a]) k_Tk_weighAsk rfl (by cases y16 <;> rfl) ?_
                  refine ck_p (L' := [some (.ref a), some (.ref b1), some (.int v2), some (.int v3), some (.ref b3), some (va_rf y16)]) (st' := [.int 1, va_rf y16, .ref a]) k_Tk_weighAsk rfl rfl ?_
                  refine ck_p (L' := [some (.ref a), some (.ref b1), some (.int v2), some (.int v3), some (.ref b3), some (va_rf y16)]) (st' := [.int v3, .int 1, va_rf y16, .ref a]) k_Tk_weighAsk rfl rfl ?_
                  cases hy24 : f y16 1 v3 σ with
                  | none =>
                    rw [hy24] at hp
                    cases hp
                  | some y24 =>
                    rw [hy24] at hp
                    try dsimp only at hp
                    refine ck_ivB (M' := m_Tk_weigh) (As := [va_rf y16, .int 1, .int v3]) k_Tk_weighAsk rfl rfl rfl rfl rfl rfl rfl (Nat.le_of_ble_eq_true rfl) (hf _ _ _ _ _ _ (by omega) hy24) (fun hby24 => ?_)
                    cases hp
                    exact ck_ret (v := some (.int _)) k_Tk_weighAsk rfl rfl trivial rfl ⟨rfl, rfl⟩
              · skip
                rw [if_neg (show ¬ (((σ.1 3) &&& y18) = 0) from h19)] at hp
                refine ck_p (L' := [some (.ref a), some (.ref b1), some (.int v2), some (.int v3), some (.ref b3), some (va_rf y16)]) (st' := [.ref a]) k_Tk_weighAsk rfl rfl ?_
                refine ck_p (L' := [some (.ref a), some (.ref b1), some (.int v2), some (.int v3), some (.ref b3), some (va_rf y16)]) (st' := [.ref b3, .ref a]) k_Tk_weighAsk rfl rfl ?_
                refine ck_p (L' := [some (.ref a), some (.ref b1), some (.int v2), some (.int v3), some (.ref b3), some (va_rf y16)]) (st' := [.int 1, .ref b3, .ref a]) k_Tk_weighAsk rfl rfl ?_
                refine ck_p (L' := [some (.ref a), some (.ref b1), some (.int v2), some (.int v3), some (.ref b3), some (va_rf y16)]) (st' := [.int v3, .int 1, .ref b3, .ref a]) k_Tk_weighAsk rfl rfl ?_
                cases hy25 : f (some b3) 1 v3 σ with
                | none =>
                  rw [hy25] at hp
                  cases hp
                | some y25 =>
                  rw [hy25] at hp
                  try dsimp only at hp
                  refine ck_ivB (M' := m_Tk_weigh) (As := [.ref b3, .int 1, .int v3]) k_Tk_weighAsk rfl rfl rfl rfl rfl rfl rfl (Nat.le_of_ble_eq_true rfl) (hf _ _ _ _ _ _ (by omega) hy25) (fun hby25 => ?_)
                  cases hp
                  exact ck_ret (v := some (.int _)) k_Tk_weighAsk rfl rfl trivial rfl ⟨rfl, rfl⟩
          · skip
            rw [if_pos (show v2 = 0 from h17)] at hp
            refine ck_p (L' := [some (.ref a), some (.ref b1), some (.int v2), some (.int v3), some (.ref b3), some (va_rf y16)]) (st' := [.ref a]) k_Tk_weighAsk rfl rfl ?_
            refine ck_p (L' := [some (.ref a), some (.ref b1), some (.int v2), some (.int v3), some (.ref b3), some (va_rf y16)]) (st' := [.ref b1, .ref a]) k_Tk_weighAsk rfl rfl ?_
            refine ck_p (L' := [some (.ref a), some (.ref b1), some (.int v2), some (.int v3), some (.ref b3), some (va_rf y16)]) (st' := [.ref a, .ref b1, .ref a]) k_Tk_weighAsk rfl rfl ?_
            refine ck_g k_Tk_weighAsk rfl rfl rfl rfl ?_
            by_cases g26 : eo σ.2.2.2.1 b1 2 = true
            · rw [if_pos g26] at hp
              cases hy27 : sp_Node_partThatStands  b1 (σ.1 2) σ with
              | none =>
                rw [hy27] at hp
                cases hp
              | some y27 =>
                rw [hy27] at hp
                try dsimp only at hp
                refine ck_ivO (M' := m_Node_partThatStands) (As := [.int (σ.1 2)]) k_Tk_weighAsk rfl rfl rfl rfl rfl g26 rfl rfl (Nat.le_of_ble_eq_true rfl) (c_sp_Node_partThatStands  hy27) (fun hby27 => ?_)
                refine ck_p (L' := [some (.ref a), some (.ref b1), some (.int v2), some (.int v3), some (.ref b3), some (va_rf y16)]) (st' := [.int 0, va_rf y27.1, .ref a]) k_Tk_weighAsk rfl rfl ?_
                refine ck_p (L' := [some (.ref a), some (.ref b1), some (.int v2), some (.int v3), some (.ref b3), some (va_rf y16)]) (st' := [.int v3, .int 0, va_rf y27.1, .ref a]) k_Tk_weighAsk rfl rfl ?_
                cases hy28 : f y27.1 0 v3 y27.2 with
                | none =>
                  rw [hy28] at hp
                  cases hp
                | some y28 =>
                  rw [hy28] at hp
                  try dsimp only at hp
                  refine ck_ivB (M' := m_Tk_weigh) (As := [va_rf y27.1, .int 0, .int v3]) k_Tk_weighAsk rfl rfl rfl rfl rfl rfl rfl (Nat.le_of_ble_eq_true rfl) (hf _ _ _ _ _ _ (by omega) hy28) (fun hby28 => ?_)
                  cases hp
                  exact ck_ret (v := some (.int _)) k_Tk_weighAsk rfl rfl trivial rfl ⟨rfl, rfl⟩
            · rw [if_neg g26] at hp
              cases hp
def sp_Tk_weighLoop (f : Option Nat → Int32 → Int32 → ck_S → Option (Int32 × ck_S)) (v1 : Option Nat) (v2 : Int32) (v3 : Int32) (σ : ck_S) : Option (Int32 × ck_S) := (match v1 with
  | none => none
  | some b1 => (match egR σ.2.2.2.1 b1 2 2 with
  | none => none
  | some y2 => (match f y2 v2 v3 σ with
  | none => none
  | some y3 => (if v2 = 0 then (match egR y3.2.2.2.2.1 b1 2 2 with
  | none => none
  | some y5 => (match sp_Tk_weighBehind f y3.1 y5 v3 y3.2 with
  | none => none
  | some y6 => some (y6.1, y6.2))) else some (y3.1, y3.2)))))
theorem c_sp_Tk_weighLoop (hf : tw_IH l F a A D f) (hD : D ≤ d) {v1 : Option Nat} {v2 : Int32} {v3 : Int32} {σ : ck_S} {r : Int32 × ck_S} (hp : sp_Tk_weighLoop f v1 v2 v3 σ = some r) : ck_Has l F (d + 2) m_Tk_weighLoop tk_K a A [.ref a, va_rf v1, .int v2, .int v3] σ (fun w σ' => w = some (.int r.1) ∧ σ' = r.2) := by
  refine ck_meth (k := 1) (L := [some (.ref a), some (va_rf v1), some (.int v2), some (.int v3), none]) pn_Tk (by cases v1 <;> rfl) (by cases v1 <;> exact (Nat.le_of_ble_eq_true rfl)) ?_
  unfold sp_Tk_weighLoop at hp
  refine ck_p (L' := [some (.ref a), some (va_rf v1), some (.int v2), some (.int v3), none]) (st' := [.ref a]) k_Tk_weighLoop rfl rfl ?_
  refine ck_p (L' := [some (.ref a), some (va_rf v1), some (.int v2), some (.int v3), none]) (st' := [va_rf v1, .ref a]) k_Tk_weighLoop rfl (by cases v1 <;> rfl) ?_
  cases v1 with
  | none =>
    try dsimp only at hp
    cases hp
  | some b1 =>
    try dsimp only at hp
    cases hy2 : egR σ.2.2.2.1 b1 2 2 with
    | none =>
      rw [hy2] at hp
      cases hp
    | some y2 =>
      rw [hy2] at hp
      try dsimp only at hp
      refine ck_gE k_Tk_weighLoop rfl rfl rfl (egR_of hy2) ?_
      refine ck_p (L' := [some (.ref a), some (.ref b1), some (.int v2), some (.int v3), none]) (st' := [.int v2, va_rf y2, .ref a]) k_Tk_weighLoop rfl rfl ?_
      refine ck_p (L' := [some (.ref a), some (.ref b1), some (.int v2), some (.int v3), none]) (st' := [.int v3, .int v2, va_rf y2, .ref a]) k_Tk_weighLoop rfl rfl ?_
      cases hy3 : f y2 v2 v3 σ with
      | none =>
        rw [hy3] at hp
        cases hp
      | some y3 =>
        rw [hy3] at hp
        try dsimp only at hp
        refine ck_ivB (M' := m_Tk_weigh) (As := [va_rf y2, .int v2, .int v3]) k_Tk_weighLoop rfl rfl rfl rfl rfl rfl rfl (Nat.le_of_ble_eq_true rfl) (hf _ _ _ _ _ _ (by omega) hy3) (fun hby3 => ?_)
        refine ck_p (L' := [some (.ref a), some (.ref b1), some (.int v2), some (.int v3), some (.int y3.1)]) (st' := []) k_Tk_weighLoop rfl rfl ?_
        refine ck_p (L' := [some (.ref a), some (.ref b1), some (.int v2), some (.int v3), some (.int y3.1)]) (st' := [.int v2]) k_Tk_weighLoop rfl rfl ?_
        refine ck_if k_Tk_weighLoop rfl rfl rfl (fun h4 => ?_) (fun h4 => ?_)
        · skip
          rw [if_pos (show v2 = 0 from h4)] at hp
          refine ck_p (L' := [some (.ref a), some (.ref b1), some (.int v2), some (.int v3), some (.int y3.1)]) (st' := [.ref a]) k_Tk_weighLoop rfl rfl ?_
          refine ck_p (L' := [some (.ref a), some (.ref b1), some (.int v2), some (.int v3), some (.int y3.1)]) (st' := [.int y3.1, .ref a]) k_Tk_weighLoop rfl rfl ?_
          refine ck_p (L' := [some (.ref a), some (.ref b1), some (.int v2), some (.int v3), some (.int y3.1)]) (st' := [.ref b1, .int y3.1, .ref a]) k_Tk_weighLoop rfl rfl ?_
          cases hy5 : egR y3.2.2.2.2.1 b1 2 2 with
          | none =>
            rw [hy5] at hp
            cases hp
          | some y5 =>
            rw [hy5] at hp
            try dsimp only at hp
            refine ck_gE k_Tk_weighLoop rfl rfl rfl (egR_of hy5) ?_
            refine ck_p (L' := [some (.ref a), some (.ref b1), some (.int v2), some (.int v3), some (.int y3.1)]) (st' := [.int v3, va_rf y5, .int y3.1, .ref a]) k_Tk_weighLoop rfl rfl ?_
            cases hy6 : sp_Tk_weighBehind f y3.1 y5 v3 y3.2 with
            | none =>
              rw [hy6] at hp
              cases hp
            | some y6 =>
              rw [hy6] at hp
              try dsimp only at hp
              refine ck_ivB (M' := m_Tk_weighBehind) (As := [.int y3.1, va_rf y5, .int v3]) k_Tk_weighLoop rfl rfl rfl rfl rfl rfl rfl (Nat.le_of_ble_eq_true rfl) (c_sp_Tk_weighBehind hf (by omega) hy6) (fun hby6 => ?_)
              cases hp
              exact ck_ret (v := some (.int _)) k_Tk_weighLoop rfl rfl trivial rfl ⟨rfl, rfl⟩
        · skip
          rw [if_neg (show ¬ (v2 = 0) from h4)] at hp
          refine ck_p (L' := [some (.ref a), some (.ref b1), some (.int v2), some (.int v3), some (.int y3.1)]) (st' := [.int y3.1]) k_Tk_weighLoop rfl rfl ?_
          refine ck_j k_Tk_weighLoop rfl rfl ?_
          cases hp
          exact ck_ret (v := some (.int _)) k_Tk_weighLoop rfl rfl trivial rfl ⟨rfl, rfl⟩
def sp_Tk_weighSuspend (f : Option Nat → Int32 → Int32 → ck_S → Option (Int32 × ck_S)) (v1 : Option Nat) (v2 : Int32) (v3 : Int32) (σ : ck_S) : Option (Int32 × ck_S) := (if v2 = 0 then (match v1 with
  | none => none
  | some b5 => (match egI σ.2.2.2.1 b5 2 1 with
  | none => none
  | some y6 => (if ((σ.1 4) &&& y6) = 0 then (if ((σ.1 3) &&& y6) = 0 then (match egR σ.2.2.2.1 b5 2 2 with
  | none => none
  | some y10 => (match f y10 0 0 σ with
  | none => none
  | some y11 => some ((y11.1 ||| 2), y11.2))) else some ((q_Tk_ending 2 v3), σ)) else (match egR σ.2.2.2.1 b5 2 2 with
  | none => none
  | some y12 => (match f y12 v2 v3 σ with
  | none => none
  | some y13 => some (y13.1, y13.2)))))) else (match v1 with
  | none => none
  | some b2 => (match egR σ.2.2.2.1 b2 2 2 with
  | none => none
  | some y3 => (match f y3 v2 v3 σ with
  | none => none
  | some y4 => some (y4.1, y4.2)))))
theorem c_sp_Tk_weighSuspend (hf : tw_IH l F a A D f) (hD : D ≤ d) {v1 : Option Nat} {v2 : Int32} {v3 : Int32} {σ : ck_S} {r : Int32 × ck_S} (hp : sp_Tk_weighSuspend f v1 v2 v3 σ = some r) : ck_Has l F (d + 2) m_Tk_weighSuspend tk_K a A [.ref a, va_rf v1, .int v2, .int v3] σ (fun w σ' => w = some (.int r.1) ∧ σ' = r.2) := by
  refine ck_meth (k := 0) (L := [some (.ref a), some (va_rf v1), some (.int v2), some (.int v3)]) pn_Tk (by cases v1 <;> rfl) (by cases v1 <;> exact (Nat.le_of_ble_eq_true rfl)) ?_
  unfold sp_Tk_weighSuspend at hp
  refine ck_p (L' := [some (.ref a), some (va_rf v1), some (.int v2), some (.int v3)]) (st' := [.int v2]) k_Tk_weighSuspend rfl rfl ?_
  refine ck_if k_Tk_weighSuspend rfl rfl rfl (fun h1 => ?_) (fun h1 => ?_)
  · skip
    rw [if_neg (show ¬ (v2 = 0) from h1)] at hp
    refine ck_p (L' := [some (.ref a), some (va_rf v1), some (.int v2), some (.int v3)]) (st' := [.ref a]) k_Tk_weighSuspend rfl rfl ?_
    refine ck_p (L' := [some (.ref a), some (va_rf v1), some (.int v2), some (.int v3)]) (st' := [va_rf v1, .ref a]) k_Tk_weighSuspend rfl (by cases v1 <;> rfl) ?_
    cases v1 with
    | none =>
      try dsimp only at hp
      cases hp
    | some b2 =>
      try dsimp only at hp
      cases hy3 : egR σ.2.2.2.1 b2 2 2 with
      | none =>
        rw [hy3] at hp
        cases hp
      | some y3 =>
        rw [hy3] at hp
        try dsimp only at hp
        refine ck_gE k_Tk_weighSuspend rfl rfl rfl (egR_of hy3) ?_
        refine ck_p (L' := [some (.ref a), some (.ref b2), some (.int v2), some (.int v3)]) (st' := [.int v2, va_rf y3, .ref a]) k_Tk_weighSuspend rfl rfl ?_
        refine ck_p (L' := [some (.ref a), some (.ref b2), some (.int v2), some (.int v3)]) (st' := [.int v3, .int v2, va_rf y3, .ref a]) k_Tk_weighSuspend rfl rfl ?_
        cases hy4 : f y3 v2 v3 σ with
        | none =>
          rw [hy4] at hp
          cases hp
        | some y4 =>
          rw [hy4] at hp
          try dsimp only at hp
          refine ck_ivB (M' := m_Tk_weigh) (As := [va_rf y3, .int v2, .int v3]) k_Tk_weighSuspend rfl rfl rfl rfl rfl rfl rfl (Nat.le_of_ble_eq_true rfl) (hf _ _ _ _ _ _ (by omega) hy4) (fun hby4 => ?_)
          cases hp
          exact ck_ret (v := some (.int _)) k_Tk_weighSuspend rfl rfl trivial rfl ⟨rfl, rfl⟩
  · skip
    rw [if_pos (show v2 = 0 from h1)] at hp
    refine ck_p (L' := [some (.ref a), some (va_rf v1), some (.int v2), some (.int v3)]) (st' := [.ref a]) k_Tk_weighSuspend rfl rfl ?_
    refine ck_g k_Tk_weighSuspend rfl rfl rfl rfl ?_
    refine ck_p (L' := [some (.ref a), some (va_rf v1), some (.int v2), some (.int v3)]) (st' := [va_rf v1, .int (σ.1 4)]) k_Tk_weighSuspend rfl (by cases v1 <;> rfl) ?_
    cases v1 with
    | none =>
      try dsimp only at hp
      cases hp
    | some b5 =>
      try dsimp only at hp
      cases hy6 : egI σ.2.2.2.1 b5 2 1 with
      | none =>
        rw [hy6] at hp
        cases hp
      | some y6 =>
        rw [hy6] at hp
        try dsimp only at hp
        refine ck_gE k_Tk_weighSuspend rfl rfl rfl (egI_of hy6) ?_
        refine ck_p (L' := [some (.ref a), some (.ref b5), some (.int v2), some (.int v3)]) (st' := [.int ((σ.1 4) &&& y6)]) k_Tk_weighSuspend rfl rfl ?_
        refine ck_if k_Tk_weighSuspend rfl rfl rfl (fun h7 => ?_) (fun h7 => ?_)
        · skip
          rw [if_pos (show ((σ.1 4) &&& y6) = 0 from h7)] at hp
          refine ck_p (L' := [some (.ref a), some (.ref b5), some (.int v2), some (.int v3)]) (st' := [.ref a]) k_Tk_weighSuspend rfl rfl ?_
          refine ck_g k_Tk_weighSuspend rfl rfl rfl rfl ?_
          refine ck_p (L' := [some (.ref a), some (.ref b5), some (.int v2), some (.int v3)]) (st' := [.ref b5, .int (σ.1 3)]) k_Tk_weighSuspend rfl rfl ?_
          refine ck_gE k_Tk_weighSuspend rfl rfl rfl (egI_of hy6) ?_
          refine ck_p (L' := [some (.ref a), some (.ref b5), some (.int v2), some (.int v3)]) (st' := [.int ((σ.1 3) &&& y6)]) k_Tk_weighSuspend rfl rfl ?_
          refine ck_if k_Tk_weighSuspend rfl rfl rfl (fun h9 => ?_) (fun h9 => ?_)
          · skip
            rw [if_pos (show ((σ.1 3) &&& y6) = 0 from h9)] at hp
            refine ck_p (L' := [some (.ref a), some (.ref b5), some (.int v2), some (.int v3)]) (st' := [.ref a]) k_Tk_weighSuspend rfl rfl ?_
            refine ck_p (L' := [some (.ref a), some (.ref b5), some (.int v2), some (.int v3)]) (st' := [.ref b5, .ref a]) k_Tk_weighSuspend rfl rfl ?_
            cases hy10 : egR σ.2.2.2.1 b5 2 2 with
            | none =>
              rw [hy10] at hp
              cases hp
            | some y10 =>
              rw [hy10] at hp
              try dsimp only at hp
              refine ck_gE k_Tk_weighSuspend rfl rfl rfl (egR_of hy10) ?_
              refine ck_p (L' := [some (.ref a), some (.ref b5), some (.int v2), some (.int v3)]) (st' := [.int 0, va_rf y10, .ref a]) k_Tk_weighSuspend rfl rfl ?_
              refine ck_p (L' := [some (.ref a), some (.ref b5), some (.int v2), some (.int v3)]) (st' := [.int 0, .int 0, va_rf y10, .ref a]) k_Tk_weighSuspend rfl rfl ?_
              cases hy11 : f y10 0 0 σ with
              | none =>
                rw [hy11] at hp
                cases hp
              | some y11 =>
                rw [hy11] at hp
                try dsimp only at hp
                refine ck_ivB (M' := m_Tk_weigh) (As := [va_rf y10, .int 0, .int 0]) k_Tk_weighSuspend rfl rfl rfl rfl rfl rfl rfl (Nat.le_of_ble_eq_true rfl) (hf _ _ _ _ _ _ (by omega) hy11) (fun hby11 => ?_)
                refine ck_p (L' := [some (.ref a), some (.ref b5), some (.int v2), some (.int v3)]) (st' := [.int 2, .int y11.1]) k_Tk_weighSuspend rfl rfl ?_
                refine ck_p (L' := [some (.ref a), some (.ref b5), some (.int v2), some (.int v3)]) (st' := [.int (y11.1 ||| 2)]) k_Tk_weighSuspend rfl rfl ?_
                cases hp
                exact ck_ret (v := some (.int _)) k_Tk_weighSuspend rfl rfl trivial rfl ⟨rfl, rfl⟩
          · skip
            rw [if_neg (show ¬ (((σ.1 3) &&& y6) = 0) from h9)] at hp
            refine ck_p (L' := [some (.ref a), some (.ref b5), some (.int v2), some (.int v3)]) (st' := [.int 2]) k_Tk_weighSuspend rfl rfl ?_
            refine ck_p (L' := [some (.ref a), some (.ref b5), some (.int v2), some (.int v3)]) (st' := [.int v3, .int 2]) k_Tk_weighSuspend rfl rfl ?_
            refine ck_isB (M' := m_Tk_ending) (As := [.int 2, .int v3]) k_Tk_weighSuspend rfl rfl rfl rfl rfl rfl (Nat.le_of_ble_eq_true rfl) (c_q_Tk_ending rfl) (fun _ => ?_)
            cases hp
            exact ck_ret (v := some (.int _)) k_Tk_weighSuspend rfl rfl trivial rfl ⟨rfl, rfl⟩
        · skip
          rw [if_neg (show ¬ (((σ.1 4) &&& y6) = 0) from h7)] at hp
          refine ck_p (L' := [some (.ref a), some (.ref b5), some (.int v2), some (.int v3)]) (st' := [.ref a]) k_Tk_weighSuspend rfl rfl ?_
          refine ck_p (L' := [some (.ref a), some (.ref b5), some (.int v2), some (.int v3)]) (st' := [.ref b5, .ref a]) k_Tk_weighSuspend rfl rfl ?_
          cases hy12 : egR σ.2.2.2.1 b5 2 2 with
          | none =>
            rw [hy12] at hp
            cases hp
          | some y12 =>
            rw [hy12] at hp
            try dsimp only at hp
            refine ck_gE k_Tk_weighSuspend rfl rfl rfl (egR_of hy12) ?_
            refine ck_p (L' := [some (.ref a), some (.ref b5), some (.int v2), some (.int v3)]) (st' := [.int v2, va_rf y12, .ref a]) k_Tk_weighSuspend rfl rfl ?_
            refine ck_p (L' := [some (.ref a), some (.ref b5), some (.int v2), some (.int v3)]) (st' := [.int v3, .int v2, va_rf y12, .ref a]) k_Tk_weighSuspend rfl rfl ?_
            cases hy13 : f y12 v2 v3 σ with
            | none =>
              rw [hy13] at hp
              cases hp
            | some y13 =>
              rw [hy13] at hp
              try dsimp only at hp
              refine ck_ivB (M' := m_Tk_weigh) (As := [va_rf y12, .int v2, .int v3]) k_Tk_weighSuspend rfl rfl rfl rfl rfl rfl rfl (Nat.le_of_ble_eq_true rfl) (hf _ _ _ _ _ _ (by omega) hy13) (fun hby13 => ?_)
              cases hp
              exact ck_ret (v := some (.int _)) k_Tk_weighSuspend rfl rfl trivial rfl ⟨rfl, rfl⟩
def sp_Tk_weighLocal (f : Option Nat → Int32 → Int32 → ck_S → Option (Int32 × ck_S)) (v1 : Option Nat) (v2 : Int32) (v3 : Int32) (σ : ck_S) : Option (Int32 × ck_S) := (match v1 with
  | none => none
  | some b1 => (match egR σ.2.2.2.1 b1 2 2 with
  | none => none
  | some y2 => (match sp_Tk_weighAlone f y2 v2 v3 σ with
  | none => none
  | some y3 => (match egI y3.2.2.2.2.1 b1 2 1 with
  | none => none
  | some y4 => (match sp_Tk_learns  y4 y3.2 with
  | none => none
  | some y5 => (if y5.1 = 0 then (match egI y5.2.2.2.2.1 b1 2 1 with
  | none => none
  | some y7 => some (y3.1, ((upd (upd y5.2.1 5 ((σ.1 5) ||| ((y5.2.1 5) &&& (y7 ^^^ (-1))))) 6 ((σ.1 6) ||| ((y5.2.1 6) &&& (y7 ^^^ (-1))))), y5.2.2.1, y5.2.2.2.1, y5.2.2.2.2.1, y5.2.2.2.2.2.1, y5.2.2.2.2.2.2))) else (match egR y5.2.2.2.2.1 b1 2 2 with
  | none => none
  | some y9 => (match sp_Tk_weighAlone f y9 v2 v3 y5.2 with
  | none => none
  | some y10 => (match egI y10.2.2.2.2.1 b1 2 1 with
  | none => none
  | some y11 => (match sp_Tk_forget  y11 y10.2 with
  | none => none
  | some y12 => (match egI y12.2.2.2.1 b1 2 1 with
  | none => none
  | some y13 => some (y10.1, ((upd (upd y12.1 5 ((σ.1 5) ||| ((y12.1 5) &&& (y13 ^^^ (-1))))) 6 ((σ.1 6) ||| ((y12.1 6) &&& (y13 ^^^ (-1))))), y12.2.1, y12.2.2.1, y12.2.2.2.1, y12.2.2.2.2.1, y12.2.2.2.2.2)))))))))))))
theorem c_sp_Tk_weighLocal (hf : tw_IH l F a A D f) (hD : D ≤ d) {v1 : Option Nat} {v2 : Int32} {v3 : Int32} {σ : ck_S} {r : Int32 × ck_S} (hp : sp_Tk_weighLocal f v1 v2 v3 σ = some r) : ck_Has l F (d + 2) m_Tk_weighLocal tk_K a A [.ref a, va_rf v1, .int v2, .int v3] σ (fun w σ' => w = some (.int r.1) ∧ σ' = r.2) := by
  refine ck_meth (k := 3) (L := [some (.ref a), some (va_rf v1), some (.int v2), some (.int v3), none, none, none]) pn_Tk (by cases v1 <;> rfl) (by cases v1 <;> exact (Nat.le_of_ble_eq_true rfl)) ?_
  unfold sp_Tk_weighLocal at hp
  refine ck_p (L' := [some (.ref a), some (va_rf v1), some (.int v2), some (.int v3), none, none, none]) (st' := [.ref a]) k_Tk_weighLocal rfl rfl ?_
  refine ck_g k_Tk_weighLocal rfl rfl rfl rfl ?_
  refine ck_p (L' := [some (.ref a), some (va_rf v1), some (.int v2), some (.int v3), some (.int (σ.1 5)), none, none]) (st' := []) k_Tk_weighLocal rfl rfl ?_
  refine ck_p (L' := [some (.ref a), some (va_rf v1), some (.int v2), some (.int v3), some (.int (σ.1 5)), none, none]) (st' := [.ref a]) k_Tk_weighLocal rfl rfl ?_
  refine ck_g k_Tk_weighLocal rfl rfl rfl rfl ?_
  refine ck_p (L' := [some (.ref a), some (va_rf v1), some (.int v2), some (.int v3), some (.int (σ.1 5)), some (.int (σ.1 6)), none]) (st' := []) k_Tk_weighLocal rfl rfl ?_
  refine ck_p (L' := [some (.ref a), some (va_rf v1), some (.int v2), some (.int v3), some (.int (σ.1 5)), some (.int (σ.1 6)), none]) (st' := [.ref a]) k_Tk_weighLocal rfl rfl ?_
  refine ck_p (L' := [some (.ref a), some (va_rf v1), some (.int v2), some (.int v3), some (.int (σ.1 5)), some (.int (σ.1 6)), none]) (st' := [va_rf v1, .ref a]) k_Tk_weighLocal rfl (by cases v1 <;> rfl) ?_
  cases v1 with
  | none =>
    try dsimp only at hp
    cases hp
  | some b1 =>
    try dsimp only at hp
    cases hy2 : egR σ.2.2.2.1 b1 2 2 with
    | none =>
      rw [hy2] at hp
      cases hp
    | some y2 =>
      rw [hy2] at hp
      try dsimp only at hp
      refine ck_gE k_Tk_weighLocal rfl rfl rfl (egR_of hy2) ?_
      refine ck_p (L' := [some (.ref a), some (.ref b1), some (.int v2), some (.int v3), some (.int (σ.1 5)), some (.int (σ.1 6)), none]) (st' := [.int v2, va_rf y2, .ref a]) k_Tk_weighLocal rfl rfl ?_
      refine ck_p (L' := [some (.ref a), some (.ref b1), some (.int v2), some (.int v3), some (.int (σ.1 5)), some (.int (σ.1 6)), none]) (st' := [.int v3, .int v2, va_rf y2, .ref a]) k_Tk_weighLocal rfl rfl ?_
      cases hy3 : sp_Tk_weighAlone f y2 v2 v3 σ with
      | none =>
        rw [hy3] at hp
        cases hp
      | some y3 =>
        rw [hy3] at hp
        try dsimp only at hp
        refine ck_ivB (M' := m_Tk_weighAlone) (As := [va_rf y2, .int v2, .int v3]) k_Tk_weighLocal rfl rfl rfl rfl rfl rfl rfl (Nat.le_of_ble_eq_true rfl) (c_sp_Tk_weighAlone hf (by omega) hy3) (fun hby3 => ?_)
        refine ck_p (L' := [some (.ref a), some (.ref b1), some (.int v2), some (.int v3), some (.int (σ.1 5)), some (.int (σ.1 6)), some (.int y3.1)]) (st' := []) k_Tk_weighLocal rfl rfl ?_
        refine ck_p (L' := [some (.ref a), some (.ref b1), some (.int v2), some (.int v3), some (.int (σ.1 5)), some (.int (σ.1 6)), some (.int y3.1)]) (st' := [.ref a]) k_Tk_weighLocal rfl rfl ?_
        refine ck_p (L' := [some (.ref a), some (.ref b1), some (.int v2), some (.int v3), some (.int (σ.1 5)), some (.int (σ.1 6)), some (.int y3.1)]) (st' := [.ref b1, .ref a]) k_Tk_weighLocal rfl rfl ?_
        cases hy4 : egI y3.2.2.2.2.1 b1 2 1 with
        | none =>
          rw [hy4] at hp
          cases hp
        | some y4 =>
          rw [hy4] at hp
          try dsimp only at hp
          refine ck_gE k_Tk_weighLocal rfl rfl rfl (egI_of hy4) ?_
          cases hy5 : sp_Tk_learns  y4 y3.2 with
          | none =>
            rw [hy5] at hp
            cases hp
          | some y5 =>
            rw [hy5] at hp
            try dsimp only at hp
            refine ck_ivB (M' := m_Tk_learns) (As := [.int y4]) k_Tk_weighLocal rfl rfl rfl rfl rfl rfl rfl (Nat.le_of_ble_eq_true rfl) (c_sp_Tk_learns  hy5) (fun hby5 => ?_)
            refine ck_if k_Tk_weighLocal rfl rfl rfl (fun h6 => ?_) (fun h6 => ?_)
            · skip
              rw [if_pos (show y5.1 = 0 from h6)] at hp
              refine ck_p (L' := [some (.ref a), some (.ref b1), some (.int v2), some (.int v3), some (.int (σ.1 5)), some (.int (σ.1 6)), some (.int y3.1)]) (st' := [.ref a]) k_Tk_weighLocal rfl rfl ?_
              refine ck_p (L' := [some (.ref a), some (.ref b1), some (.int v2), some (.int v3), some (.int (σ.1 5)), some (.int (σ.1 6)), some (.int y3.1)]) (st' := [.int (σ.1 5), .ref a]) k_Tk_weighLocal rfl rfl ?_
              refine ck_p (L' := [some (.ref a), some (.ref b1), some (.int v2), some (.int v3), some (.int (σ.1 5)), some (.int (σ.1 6)), some (.int y3.1)]) (st' := [.ref a, .int (σ.1 5), .ref a]) k_Tk_weighLocal rfl rfl ?_
              refine ck_g k_Tk_weighLocal rfl rfl rfl rfl ?_
              refine ck_p (L' := [some (.ref a), some (.ref b1), some (.int v2), some (.int v3), some (.int (σ.1 5)), some (.int (σ.1 6)), some (.int y3.1)]) (st' := [.ref b1, .int (y5.2.1 5), .int (σ.1 5), .ref a]) k_Tk_weighLocal rfl rfl ?_
              cases hy7 : egI y5.2.2.2.2.1 b1 2 1 with
              | none =>
                rw [hy7] at hp
                cases hp
              | some y7 =>
                rw [hy7] at hp
                try dsimp only at hp
                refine ck_gE k_Tk_weighLocal rfl rfl rfl (egI_of hy7) ?_
                refine ck_p (L' := [some (.ref a), some (.ref b1), some (.int v2), some (.int v3), some (.int (σ.1 5)), some (.int (σ.1 6)), some (.int y3.1)]) (st' := [.int (-1), .int y7, .int (y5.2.1 5), .int (σ.1 5), .ref a]) k_Tk_weighLocal rfl rfl ?_
                refine ck_p (L' := [some (.ref a), some (.ref b1), some (.int v2), some (.int v3), some (.int (σ.1 5)), some (.int (σ.1 6)), some (.int y3.1)]) (st' := [.int (y7 ^^^ (-1)), .int (y5.2.1 5), .int (σ.1 5), .ref a]) k_Tk_weighLocal rfl rfl ?_
                refine ck_p (L' := [some (.ref a), some (.ref b1), some (.int v2), some (.int v3), some (.int (σ.1 5)), some (.int (σ.1 6)), some (.int y3.1)]) (st' := [.int ((y5.2.1 5) &&& (y7 ^^^ (-1))), .int (σ.1 5), .ref a]) k_Tk_weighLocal rfl rfl ?_
                refine ck_p (L' := [some (.ref a), some (.ref b1), some (.int v2), some (.int v3), some (.int (σ.1 5)), some (.int (σ.1 6)), some (.int y3.1)]) (st' := [.int ((σ.1 5) ||| ((y5.2.1 5) &&& (y7 ^^^ (-1)))), .ref a]) k_Tk_weighLocal rfl rfl ?_
                refine ck_pt k_Tk_weighLocal rfl rfl rfl trivial (Nat.le_of_ble_eq_true rfl) rfl ?_
                refine ck_p (L' := [some (.ref a), some (.ref b1), some (.int v2), some (.int v3), some (.int (σ.1 5)), some (.int (σ.1 6)), some (.int y3.1)]) (st' := [.ref a]) k_Tk_weighLocal rfl rfl ?_
                refine ck_p (L' := [some (.ref a), some (.ref b1), some (.int v2), some (.int v3), some (.int (σ.1 5)), some (.int (σ.1 6)), some (.int y3.1)]) (st' := [.int (σ.1 6), .ref a]) k_Tk_weighLocal rfl rfl ?_
                refine ck_p (L' := [some (.ref a), some (.ref b1), some (.int v2), some (.int v3), some (.int (σ.1 5)), some (.int (σ.1 6)), some (.int y3.1)]) (st' := [.ref a, .int (σ.1 6), .ref a]) k_Tk_weighLocal rfl rfl ?_
                refine ck_g k_Tk_weighLocal rfl rfl rfl rfl ?_
                refine ck_p (L' := [some (.ref a), some (.ref b1), some (.int v2), some (.int v3), some (.int (σ.1 5)), some (.int (σ.1 6)), some (.int y3.1)]) (st' := [.ref b1, .int (y5.2.1 6), .int (σ.1 6), .ref a]) k_Tk_weighLocal rfl rfl ?_
                refine ck_gE k_Tk_weighLocal rfl rfl rfl (egI_of hy7) ?_
                refine ck_p (L' := [some (.ref a), some (.ref b1), some (.int v2), some (.int v3), some (.int (σ.1 5)), some (.int (σ.1 6)), some (.int y3.1)]) (st' := [.int (-1), .int y7, .int (y5.2.1 6), .int (σ.1 6), .ref a]) k_Tk_weighLocal rfl rfl ?_
                refine ck_p (L' := [some (.ref a), some (.ref b1), some (.int v2), some (.int v3), some (.int (σ.1 5)), some (.int (σ.1 6)), some (.int y3.1)]) (st' := [.int (y7 ^^^ (-1)), .int (y5.2.1 6), .int (σ.1 6), .ref a]) k_Tk_weighLocal rfl rfl ?_
                refine ck_p (L' := [some (.ref a), some (.ref b1), some (.int v2), some (.int v3), some (.int (σ.1 5)), some (.int (σ.1 6)), some (.int y3.1)]) (st' := [.int ((y5.2.1 6) &&& (y7 ^^^ (-1))), .int (σ.1 6), .ref a]) k_Tk_weighLocal rfl rfl ?_
                refine ck_p (L' := [some (.ref a), some (.ref b1), some (.int v2), some (.int v3), some (.int (σ.1 5)), some (.int (σ.1 6)), some (.int y3.1)]) (st' := [.int ((σ.1 6) ||| ((y5.2.1 6) &&& (y7 ^^^ (-1)))), .ref a]) k_Tk_weighLocal rfl rfl ?_
                refine ck_pt k_Tk_weighLocal rfl rfl rfl trivial (Nat.le_of_ble_eq_true rfl) rfl ?_
                refine ck_p (L' := [some (.ref a), some (.ref b1), some (.int v2), some (.int v3), some (.int (σ.1 5)), some (.int (σ.1 6)), some (.int y3.1)]) (st' := [.int y3.1]) k_Tk_weighLocal rfl rfl ?_
                cases hp
                exact ck_ret (v := some (.int _)) k_Tk_weighLocal rfl rfl trivial rfl ⟨rfl, rfl⟩
            · skip
              rw [if_neg (show ¬ (y5.1 = 0) from h6)] at hp
              refine ck_p (L' := [some (.ref a), some (.ref b1), some (.int v2), some (.int v3), some (.int (σ.1 5)), some (.int (σ.1 6)), some (.int y3.1)]) (st' := [.ref a]) k_Tk_weighLocal rfl rfl ?_
              refine ck_p (L' := [some (.ref a), some (.ref b1), some (.int v2), some (.int v3), some (.int (σ.1 5)), some (.int (σ.1 6)), some (.int y3.1)]) (st' := [.ref b1, .ref a]) k_Tk_weighLocal rfl rfl ?_
              cases hy9 : egR y5.2.2.2.2.1 b1 2 2 with
              | none =>
                rw [hy9] at hp
                cases hp
              | some y9 =>
                rw [hy9] at hp
                try dsimp only at hp
                refine ck_gE k_Tk_weighLocal rfl rfl rfl (egR_of hy9) ?_
                refine ck_p (L' := [some (.ref a), some (.ref b1), some (.int v2), some (.int v3), some (.int (σ.1 5)), some (.int (σ.1 6)), some (.int y3.1)]) (st' := [.int v2, va_rf y9, .ref a]) k_Tk_weighLocal rfl rfl ?_
                refine ck_p (L' := [some (.ref a), some (.ref b1), some (.int v2), some (.int v3), some (.int (σ.1 5)), some (.int (σ.1 6)), some (.int y3.1)]) (st' := [.int v3, .int v2, va_rf y9, .ref a]) k_Tk_weighLocal rfl rfl ?_
                cases hy10 : sp_Tk_weighAlone f y9 v2 v3 y5.2 with
                | none =>
                  rw [hy10] at hp
                  cases hp
                | some y10 =>
                  rw [hy10] at hp
                  try dsimp only at hp
                  refine ck_ivB (M' := m_Tk_weighAlone) (As := [va_rf y9, .int v2, .int v3]) k_Tk_weighLocal rfl rfl rfl rfl rfl rfl rfl (Nat.le_of_ble_eq_true rfl) (c_sp_Tk_weighAlone hf (by omega) hy10) (fun hby10 => ?_)
                  refine ck_p (L' := [some (.ref a), some (.ref b1), some (.int v2), some (.int v3), some (.int (σ.1 5)), some (.int (σ.1 6)), some (.int y10.1)]) (st' := []) k_Tk_weighLocal rfl rfl ?_
                  refine ck_p (L' := [some (.ref a), some (.ref b1), some (.int v2), some (.int v3), some (.int (σ.1 5)), some (.int (σ.1 6)), some (.int y10.1)]) (st' := [.ref a]) k_Tk_weighLocal rfl rfl ?_
                  refine ck_p (L' := [some (.ref a), some (.ref b1), some (.int v2), some (.int v3), some (.int (σ.1 5)), some (.int (σ.1 6)), some (.int y10.1)]) (st' := [.ref b1, .ref a]) k_Tk_weighLocal rfl rfl ?_
                  cases hy11 : egI y10.2.2.2.2.1 b1 2 1 with
                  | none =>
                    rw [hy11] at hp
                    cases hp
                  | some y11 =>
                    rw [hy11] at hp
                    try dsimp only at hp
                    refine ck_gE k_Tk_weighLocal rfl rfl rfl (egI_of hy11) ?_
                    cases hy12 : sp_Tk_forget  y11 y10.2 with
                    | none =>
                      rw [hy12] at hp
                      cases hp
                    | some y12 =>
                      rw [hy12] at hp
                      try dsimp only at hp
                      refine ck_ivV (M' := m_Tk_forget) (As := [.int y11]) k_Tk_weighLocal rfl rfl rfl rfl rfl rfl rfl (Nat.le_of_ble_eq_true rfl) (c_sp_Tk_forget  hy12) ?_
                      refine ck_p (L' := [some (.ref a), some (.ref b1), some (.int v2), some (.int v3), some (.int (σ.1 5)), some (.int (σ.1 6)), some (.int y10.1)]) (st' := [.ref a]) k_Tk_weighLocal rfl rfl ?_
                      refine ck_p (L' := [some (.ref a), some (.ref b1), some (.int v2), some (.int v3), some (.int (σ.1 5)), some (.int (σ.1 6)), some (.int y10.1)]) (st' := [.int (σ.1 5), .ref a]) k_Tk_weighLocal rfl rfl ?_
                      refine ck_p (L' := [some (.ref a), some (.ref b1), some (.int v2), some (.int v3), some (.int (σ.1 5)), some (.int (σ.1 6)), some (.int y10.1)]) (st' := [.ref a, .int (σ.1 5), .ref a]) k_Tk_weighLocal rfl rfl ?_
                      refine ck_g k_Tk_weighLocal rfl rfl rfl rfl ?_
                      refine ck_p (L' := [some (.ref a), some (.ref b1), some (.int v2), some (.int v3), some (.int (σ.1 5)), some (.int (σ.1 6)), some (.int y10.1)]) (st' := [.ref b1, .int (y12.1 5), .int (σ.1 5), .ref a]) k_Tk_weighLocal rfl rfl ?_
                      cases hy13 : egI y12.2.2.2.1 b1 2 1 with
                      | none =>
                        rw [hy13] at hp
                        cases hp
                      | some y13 =>
                        rw [hy13] at hp
                        try dsimp only at hp
                        refine ck_gE k_Tk_weighLocal rfl rfl rfl (egI_of hy13) ?_
                        refine ck_p (L' := [some (.ref a), some (.ref b1), some (.int v2), some (.int v3), some (.int (σ.1 5)), some (.int (σ.1 6)), some (.int y10.1)]) (st' := [.int (-1), .int y13, .int (y12.1 5), .int (σ.1 5), .ref a]) k_Tk_weighLocal rfl rfl ?_
                        refine ck_p (L' := [some (.ref a), some (.ref b1), some (.int v2), some (.int v3), some (.int (σ.1 5)), some (.int (σ.1 6)), some (.int y10.1)]) (st' := [.int (y13 ^^^ (-1)), .int (y12.1 5), .int (σ.1 5), .ref a]) k_Tk_weighLocal rfl rfl ?_
                        refine ck_p (L' := [some (.ref a), some (.ref b1), some (.int v2), some (.int v3), some (.int (σ.1 5)), some (.int (σ.1 6)), some (.int y10.1)]) (st' := [.int ((y12.1 5) &&& (y13 ^^^ (-1))), .int (σ.1 5), .ref a]) k_Tk_weighLocal rfl rfl ?_
                        refine ck_p (L' := [some (.ref a), some (.ref b1), some (.int v2), some (.int v3), some (.int (σ.1 5)), some (.int (σ.1 6)), some (.int y10.1)]) (st' := [.int ((σ.1 5) ||| ((y12.1 5) &&& (y13 ^^^ (-1)))), .ref a]) k_Tk_weighLocal rfl rfl ?_
                        refine ck_pt k_Tk_weighLocal rfl rfl rfl trivial (Nat.le_of_ble_eq_true rfl) rfl ?_
                        refine ck_p (L' := [some (.ref a), some (.ref b1), some (.int v2), some (.int v3), some (.int (σ.1 5)), some (.int (σ.1 6)), some (.int y10.1)]) (st' := [.ref a]) k_Tk_weighLocal rfl rfl ?_
                        refine ck_p (L' := [some (.ref a), some (.ref b1), some (.int v2), some (.int v3), some (.int (σ.1 5)), some (.int (σ.1 6)), some (.int y10.1)]) (st' := [.int (σ.1 6), .ref a]) k_Tk_weighLocal rfl rfl ?_
                        refine ck_p (L' := [some (.ref a), some (.ref b1), some (.int v2), some (.int v3), some (.int (σ.1 5)), some (.int (σ.1 6)), some (.int y10.1)]) (st' := [.ref a, .int (σ.1 6), .ref a]) k_Tk_weighLocal rfl rfl ?_
                        refine ck_g k_Tk_weighLocal rfl rfl rfl rfl ?_
                        refine ck_p (L' := [some (.ref a), some (.ref b1), some (.int v2), some (.int v3), some (.int (σ.1 5)), some (.int (σ.1 6)), some (.int y10.1)]) (st' := [.ref b1, .int (y12.1 6), .int (σ.1 6), .ref a]) k_Tk_weighLocal rfl rfl ?_
                        refine ck_gE k_Tk_weighLocal rfl rfl rfl (egI_of hy13) ?_
                        refine ck_p (L' := [some (.ref a), some (.ref b1), some (.int v2), some (.int v3), some (.int (σ.1 5)), some (.int (σ.1 6)), some (.int y10.1)]) (st' := [.int (-1), .int y13, .int (y12.1 6), .int (σ.1 6), .ref a]) k_Tk_weighLocal rfl rfl ?_
                        refine ck_p (L' := [some (.ref a), some (.ref b1), some (.int v2), some (.int v3), some (.int (σ.1 5)), some (.int (σ.1 6)), some (.int y10.1)]) (st' := [.int (y13 ^^^ (-1)), .int (y12.1 6), .int (σ.1 6), .ref a]) k_Tk_weighLocal rfl rfl ?_
                        refine ck_p (L' := [some (.ref a), some (.ref b1), some (.int v2), some (.int v3), some (.int (σ.1 5)), some (.int (σ.1 6)), some (.int y10.1)]) (st' := [.int ((y12.1 6) &&& (y13 ^^^ (-1))), .int (σ.1 6), .ref a]) k_Tk_weighLocal rfl rfl ?_
                        refine ck_p (L' := [some (.ref a), some (.ref b1), some (.int v2), some (.int v3), some (.int (σ.1 5)), some (.int (σ.1 6)), some (.int y10.1)]) (st' := [.int ((σ.1 6) ||| ((y12.1 6) &&& (y13 ^^^ (-1)))), .ref a]) k_Tk_weighLocal rfl rfl ?_
                        refine ck_pt k_Tk_weighLocal rfl rfl rfl trivial (Nat.le_of_ble_eq_true rfl) rfl ?_
                        refine ck_p (L' := [some (.ref a), some (.ref b1), some (.int v2), some (.int v3), some (.int (σ.1 5)), some (.int (σ.1 6)), some (.int y10.1)]) (st' := [.int y10.1]) k_Tk_weighLocal rfl rfl ?_
                        cases hp
                        exact ck_ret (v := some (.int _)) k_Tk_weighLocal rfl rfl trivial rfl ⟨rfl, rfl⟩
def sp_Tk_weighRow_47 (f : Option Nat → Int32 → Int32 → ck_S → Option (Int32 × ck_S))  : Nat → Option Nat → Int32 → Int32 → Option Nat → Int32 → Option Nat → ck_S → Option (Int32 × ck_S)
  | 0, _, _, _, _, _, _, _ => none
  | m + 1, v1, v2, v3, v4, v5, v6, σ => (match v6 with
  | none => some (v5, σ)
  | some b7 => (match sp_Tk_weighBehind f v5 (some b7) v3 σ with
  | none => none
  | some y8 => (match egR y8.2.2.2.2.1 b7 2 5 with
  | none => none
  | some y9 => sp_Tk_weighRow_47 f   m v1 v2 v3 v4 y8.1 y9 y8.2)))
theorem c_sp_Tk_weighRow_47 (hf : tw_IH l F a A D f) (hD : D ≤ d) {r : Int32 × ck_S} : ∀ (m : Nat) (v1 : Option Nat) (v2 : Int32) (v3 : Int32) (v4 : Option Nat) (v5 : Int32) (v6 : Option Nat) (σ : ck_S), sp_Tk_weighRow_47 f  m v1 v2 v3 v4 v5 v6 σ = some r → ck_Go l F (d + 2) m_Tk_weighRow tk_K a A 47 ([some (.ref a), some (va_rf v1), some (.int v2), some (.int v3), some (va_rf v4), some (.int v5), some (va_rf v6)]) [] σ (fun w σ' => w = some (.int r.1) ∧ σ' = r.2) := by
  intro m
  induction m with
  | zero => intro v1 v2 v3 v4 v5 v6 σ hp; cases hp
  | succ m ihm =>
    intro v1 v2 v3 v4 v5 v6 σ hp
    unfold sp_Tk_weighRow_47 at hp
    refine ck_p (L' := [some (.ref a), some (va_rf v1), some (.int v2), some (.int v3), some (va_rf v4), some (.int v5), some (va_rf v6)]) (st' := [va_rf v6]) k_Tk_weighRow rfl (by cases v6 <;> rfl) ?_
    cases v6 with
    | none =>
      try dsimp only at hp
      refine ck_j k_Tk_weighRow rfl rfl ?_
      refine ck_p (L' := [some (.ref a), some (va_rf v1), some (.int v2), some (.int v3), some (va_rf v4), some (.int v5), some (.null)]) (st' := [.int v5]) k_Tk_weighRow rfl rfl ?_
      cases hp
      exact ck_ret (v := some (.int _)) k_Tk_weighRow rfl rfl trivial rfl ⟨rfl, rfl⟩
    | some b7 =>
      try dsimp only at hp
      refine ck_j k_Tk_weighRow rfl rfl ?_
      refine ck_p (L' := [some (.ref a), some (va_rf v1), some (.int v2), some (.int v3), some (va_rf v4), some (.int v5), some (.ref b7)]) (st' := [.ref a]) k_Tk_weighRow rfl rfl ?_
      refine ck_p (L' := [some (.ref a), some (va_rf v1), some (.int v2), some (.int v3), some (va_rf v4), some (.int v5), some (.ref b7)]) (st' := [.int v5, .ref a]) k_Tk_weighRow rfl rfl ?_
      refine ck_p (L' := [some (.ref a), some (va_rf v1), some (.int v2), some (.int v3), some (va_rf v4), some (.int v5), some (.ref b7)]) (st' := [.ref b7, .int v5, .ref a]) k_Tk_weighRow rfl rfl ?_
      refine ck_p (L' := [some (.ref a), some (va_rf v1), some (.int v2), some (.int v3), some (va_rf v4), some (.int v5), some (.ref b7)]) (st' := [.int v3, .ref b7, .int v5, .ref a]) k_Tk_weighRow rfl rfl ?_
      cases hy8 : sp_Tk_weighBehind f v5 (some b7) v3 σ with
      | none =>
        rw [hy8] at hp
        cases hp
      | some y8 =>
        rw [hy8] at hp
        try dsimp only at hp
        refine ck_ivB (M' := m_Tk_weighBehind) (As := [.int v5, .ref b7, .int v3]) k_Tk_weighRow rfl rfl rfl rfl rfl rfl rfl (Nat.le_of_ble_eq_true rfl) (c_sp_Tk_weighBehind hf (by omega) hy8) (fun hby8 => ?_)
        refine ck_p (L' := [some (.ref a), some (va_rf v1), some (.int v2), some (.int v3), some (va_rf v4), some (.int y8.1), some (.ref b7)]) (st' := []) k_Tk_weighRow rfl (by cases v4 <;> rfl) ?_
        refine ck_p (L' := [some (.ref a), some (va_rf v1), some (.int v2), some (.int v3), some (va_rf v4), some (.int y8.1), some (.ref b7)]) (st' := [.ref b7]) k_Tk_weighRow rfl rfl ?_
        cases hy9 : egR y8.2.2.2.2.1 b7 2 5 with
        | none =>
          rw [hy9] at hp
          cases hp
        | some y9 =>
          rw [hy9] at hp
          try dsimp only at hp
          refine ck_gE k_Tk_weighRow rfl rfl rfl (egR_of hy9) ?_
          refine ck_p (L' := [some (.ref a), some (va_rf v1), some (.int v2), some (.int v3), some (va_rf v4), some (.int y8.1), some (va_rf y9)]) (st' := []) k_Tk_weighRow rfl (by cases y9 <;> rfl) ?_
          refine ck_j k_Tk_weighRow rfl rfl ?_
          exact ihm _ _ _ _ _ _ _ hp
def sp_Tk_weighRow (f : Option Nat → Int32 → Int32 → ck_S → Option (Int32 × ck_S)) (v1 : Option Nat) (v2 : Int32) (v3 : Int32) (σ : ck_S) : Option (Int32 × ck_S) := (if v2 = 0 then (match v1 with
  | none => none
  | some b2 => (if eo σ.2.2.2.1 b2 2 = true then (match sp_Node_partThatStands  b2 (σ.1 2) σ with
  | none => none
  | some y4 => (match f y4.1 v2 v3 y4.2 with
  | none => none
  | some y5 => (match y4.1 with
  | none => sp_Tk_weighRow_47 f  2601 (some b2) v2 v3 none y5.1 none y5.2
  | some b6 => (match egR y5.2.2.2.2.1 b6 2 5 with
  | none => none
  | some y10 => sp_Tk_weighRow_47 f  2601 (some b2) v2 v3 (some b6) y5.1 y10 y5.2)))) else none)) else (match v1 with
  | none => none
  | some b11 => (match egR σ.2.2.2.1 b11 2 2 with
  | none => none
  | some y12 => (match f y12 v2 v3 σ with
  | none => none
  | some y13 => (match y12 with
  | none => sp_Tk_weighRow_47 f  2601 (some b11) v2 v3 none y13.1 none y13.2
  | some b14 => (match egR y13.2.2.2.2.1 b14 2 5 with
  | none => none
  | some y15 => sp_Tk_weighRow_47 f  2601 (some b11) v2 v3 (some b14) y13.1 y15 y13.2))))))
theorem c_sp_Tk_weighRow (hf : tw_IH l F a A D f) (hD : D ≤ d) {v1 : Option Nat} {v2 : Int32} {v3 : Int32} {σ : ck_S} {r : Int32 × ck_S} (hp : sp_Tk_weighRow f v1 v2 v3 σ = some r) : ck_Has l F (d + 2) m_Tk_weighRow tk_K a A [.ref a, va_rf v1, .int v2, .int v3] σ (fun w σ' => w = some (.int r.1) ∧ σ' = r.2) := by
  refine ck_meth (k := 3) (L := [some (.ref a), some (va_rf v1), some (.int v2), some (.int v3), none, none, none]) pn_Tk (by cases v1 <;> rfl) (by cases v1 <;> exact (Nat.le_of_ble_eq_true rfl)) ?_
  unfold sp_Tk_weighRow at hp
  refine ck_p (L' := [some (.ref a), some (va_rf v1), some (.int v2), some (.int v3), none, none, none]) (st' := [.int v2]) k_Tk_weighRow rfl rfl ?_
  refine ck_if k_Tk_weighRow rfl rfl rfl (fun h1 => ?_) (fun h1 => ?_)
  · skip
    rw [if_pos (show v2 = 0 from h1)] at hp
    refine ck_p (L' := [some (.ref a), some (va_rf v1), some (.int v2), some (.int v3), none, none, none]) (st' := [va_rf v1]) k_Tk_weighRow rfl (by cases v1 <;> rfl) ?_
    refine ck_p (L' := [some (.ref a), some (va_rf v1), some (.int v2), some (.int v3), none, none, none]) (st' := [.ref a, va_rf v1]) k_Tk_weighRow rfl rfl ?_
    refine ck_g k_Tk_weighRow rfl rfl rfl rfl ?_
    cases v1 with
    | none =>
      try dsimp only at hp
      cases hp
    | some b2 =>
      try dsimp only at hp
      by_cases g3 : eo σ.2.2.2.1 b2 2 = true
      · rw [if_pos g3] at hp
        cases hy4 : sp_Node_partThatStands  b2 (σ.1 2) σ with
        | none =>
          rw [hy4] at hp
          cases hp
        | some y4 =>
          rw [hy4] at hp
          try dsimp only at hp
          refine ck_ivO (M' := m_Node_partThatStands) (As := [.int (σ.1 2)]) k_Tk_weighRow rfl rfl rfl rfl rfl g3 rfl rfl (Nat.le_of_ble_eq_true rfl) (c_sp_Node_partThatStands  hy4) (fun hby4 => ?_)
          refine ck_p (L' := [some (.ref a), some (.ref b2), some (.int v2), some (.int v3), some (va_rf y4.1), none, none]) (st' := []) k_Tk_weighRow rfl (by cases y4.1 <;> rfl) ?_
          refine ck_p (L' := [some (.ref a), some (.ref b2), some (.int v2), some (.int v3), some (va_rf y4.1), none, none]) (st' := [.ref a]) k_Tk_weighRow rfl rfl ?_
          refine ck_p (L' := [some (.ref a), some (.ref b2), some (.int v2), some (.int v3), some (va_rf y4.1), none, none]) (st' := [va_rf y4.1, .ref a]) k_Tk_weighRow rfl (by cases y4.1 <;> rfl) ?_
          refine ck_p (L' := [some (.ref a), some (.ref b2), some (.int v2), some (.int v3), some (va_rf y4.1), none, none]) (st' := [.int v2, va_rf y4.1, .ref a]) k_Tk_weighRow rfl rfl ?_
          refine ck_p (L' := [some (.ref a), some (.ref b2), some (.int v2), some (.int v3), some (va_rf y4.1), none, none]) (st' := [.int v3, .int v2, va_rf y4.1, .ref a]) k_Tk_weighRow rfl rfl ?_
          cases hy5 : f y4.1 v2 v3 y4.2 with
          | none =>
            rw [hy5] at hp
            cases hp
          | some y5 =>
            rw [hy5] at hp
            try dsimp only at hp
            refine ck_ivB (M' := m_Tk_weigh) (As := [va_rf y4.1, .int v2, .int v3]) k_Tk_weighRow rfl rfl rfl rfl rfl rfl rfl (Nat.le_of_ble_eq_true rfl) (hf _ _ _ _ _ _ (by omega) hy5) (fun hby5 => ?_)
            refine ck_p (L' := [some (.ref a), some (.ref b2), some (.int v2), some (.int v3), some (va_rf y4.1), some (.int y5.1), none]) (st' := []) k_Tk_weighRow rfl (by cases y4.1 <;> rfl) ?_
            refine ck_p (L' := [some (.ref a), some (.ref b2), some (.int v2), some (.int v3), some (va_rf y4.1), some (.int y5.1), none]) (st' := [va_rf y4.1]) k_Tk_weighRow rfl (by cases y4.1 <;> rfl) ?_
            cases hb6 : y4.1 with
            | none =>
              rw [hb6] at hp
              try dsimp only at hp
              refine ck_j k_Tk_weighRow rfl rfl ?_
              refine ck_p (L' := [some (.ref a), some (.ref b2), some (.int v2), some (.int v3), some (.null), some (.int y5.1), none]) (st' := [.null]) k_Tk_weighRow rfl rfl ?_
              refine ck_j k_Tk_weighRow rfl rfl ?_
              refine ck_p (L' := [some (.ref a), some (.ref b2), some (.int v2), some (.int v3), some (.null), some (.int y5.1), some (.null)]) (st' := []) k_Tk_weighRow rfl rfl ?_
              exact c_sp_Tk_weighRow_47 hf (by omega)  _ _ _ _ _ _ _ _ hp
            | some b6 =>
              rw [hb6] at hp
              try dsimp only at hp
              refine ck_j k_Tk_weighRow rfl rfl ?_
              refine ck_p (L' := [some (.ref a), some (.ref b2), some (.int v2), some (.int v3), some (.ref b6), some (.int y5.1), none]) (st' := [.ref b6]) k_Tk_weighRow rfl rfl ?_
              cases hy10 : egR y5.2.2.2.2.1 b6 2 5 with
              | none =>
                rw [hy10] at hp
                cases hp
              | some y10 =>
                rw [hy10] at hp
                try dsimp only at hp
                refine ck_gE k_Tk_weighRow rfl rfl rfl (egR_of hy10) ?_
                refine ck_p (L' := [some (.ref a), some (.ref b2), some (.int v2), some (.int v3), some (.ref b6), some (.int y5.1), some (va_rf y10)]) (st' := []) k_Tk_weighRow rfl (by cases y10 <;> rfl) ?_
                exact c_sp_Tk_weighRow_47 hf (by omega)  _ _ _ _ _ _ _ _ hp
      · rw [if_neg g3] at hp
        cases hp
  · skip
    rw [if_neg (show ¬ (v2 = 0) from h1)] at hp
    refine ck_p (L' := [some (.ref a), some (va_rf v1), some (.int v2), some (.int v3), none, none, none]) (st' := [va_rf v1]) k_Tk_weighRow rfl (by cases v1 <;> rfl) ?_
    cases v1 with
    | none =>
      try dsimp only at hp
      cases hp
    | some b11 =>
      try dsimp only at hp
      cases hy12 : egR σ.2.2.2.1 b11 2 2 with
      | none =>
        rw [hy12] at hp
        cases hp
      | some y12 =>
        rw [hy12] at hp
        try dsimp only at hp
        refine ck_gE k_Tk_weighRow rfl rfl rfl (egR_of hy12) ?_
        refine ck_j k_Tk_weighRow rfl rfl ?_
        refine ck_p (L' := [some (.ref a), some (.ref b11), some (.int v2), some (.int v3), some (va_rf y12), none, none]) (st' := []) k_Tk_weighRow rfl (by cases y12 <;> rfl) ?_
        refine ck_p (L' := [some (.ref a), some (.ref b11), some (.int v2), some (.int v3), some (va_rf y12), none, none]) (st' := [.ref a]) k_Tk_weighRow rfl rfl ?_
        refine ck_p (L' := [some (.ref a), some (.ref b11), some (.int v2), some (.int v3), some (va_rf y12), none, none]) (st' := [va_rf y12, .ref a]) k_Tk_weighRow rfl (by cases y12 <;> rfl) ?_
        refine ck_p (L' := [some (.ref a), some (.ref b11), some (.int v2), some (.int v3), some (va_rf y12), none, none]) (st' := [.int v2, va_rf y12, .ref a]) k_Tk_weighRow rfl rfl ?_
        refine ck_p (L' := [some (.ref a), some (.ref b11), some (.int v2), some (.int v3), some (va_rf y12), none, none]) (st' := [.int v3, .int v2, va_rf y12, .ref a]) k_Tk_weighRow rfl rfl ?_
        cases hy13 : f y12 v2 v3 σ with
        | none =>
          rw [hy13] at hp
          cases hp
        | some y13 =>
          rw [hy13] at hp
          try dsimp only at hp
          refine ck_ivB (M' := m_Tk_weigh) (As := [va_rf y12, .int v2, .int v3]) k_Tk_weighRow rfl rfl rfl rfl rfl rfl rfl (Nat.le_of_ble_eq_true rfl) (hf _ _ _ _ _ _ (by omega) hy13) (fun hby13 => ?_)
          refine ck_p (L' := [some (.ref a), some (.ref b11), some (.int v2), some (.int v3), some (va_rf y12), some (.int y13.1), none]) (st' := []) k_Tk_weighRow rfl (by cases y12 <;> rfl) ?_
          refine ck_p (L' := [some (.ref a), some (.ref b11), some (.int v2), some (.int v3), some (va_rf y12), some (.int y13.1), none]) (st' := [va_rf y12]) k_Tk_weighRow rfl (by cases y12 <;> rfl) ?_
          cases y12 with
          | none =>
            try dsimp only at hp
            refine ck_j k_Tk_weighRow rfl rfl ?_
            refine ck_p (L' := [some (.ref a), some (.ref b11), some (.int v2), some (.int v3), some (.null), some (.int y13.1), none]) (st' := [.null]) k_Tk_weighRow rfl rfl ?_
            refine ck_j k_Tk_weighRow rfl rfl ?_
            refine ck_p (L' := [some (.ref a), some (.ref b11), some (.int v2), some (.int v3), some (.null), some (.int y13.1), some (.null)]) (st' := []) k_Tk_weighRow rfl rfl ?_
            exact c_sp_Tk_weighRow_47 hf (by omega)  _ _ _ _ _ _ _ _ hp
          | some b14 =>
            try dsimp only at hp
            refine ck_j k_Tk_weighRow rfl rfl ?_
            refine ck_p (L' := [some (.ref a), some (.ref b11), some (.int v2), some (.int v3), some (.ref b14), some (.int y13.1), none]) (st' := [.ref b14]) k_Tk_weighRow rfl rfl ?_
            cases hy15 : egR y13.2.2.2.2.1 b14 2 5 with
            | none =>
              rw [hy15] at hp
              cases hp
            | some y15 =>
              rw [hy15] at hp
              try dsimp only at hp
              refine ck_gE k_Tk_weighRow rfl rfl rfl (egR_of hy15) ?_
              refine ck_p (L' := [some (.ref a), some (.ref b11), some (.int v2), some (.int v3), some (.ref b14), some (.int y13.1), some (va_rf y15)]) (st' := []) k_Tk_weighRow rfl (by cases y15 <;> rfl) ?_
              exact c_sp_Tk_weighRow_47 hf (by omega)  _ _ _ _ _ _ _ _ hp
def sp_Tk_weighBeside_12 (f : Option Nat → Int32 → Int32 → ck_S → Option (Int32 × ck_S))  : Nat → Option Nat → Int32 → Int32 → Int32 → Int32 → Option Nat → ck_S → Option (Int32 × ck_S)
  | 0, _, _, _, _, _, _, _ => none
  | m + 1, v1, v2, v3, v4, v5, v6, σ => (match v6 with
  | none => some ((q_Codes_pair v4 v5), σ)
  | some b3 => (if v2 = 0 then (if eo σ.2.2.2.1 b3 2 = true then (match sp_Node_standsIn  b3 (σ.1 2) σ with
  | none => none
  | some y8 => (if y8.1 = 0 then (match egR y8.2.2.2.2.1 b3 2 5 with
  | none => none
  | some y10 => sp_Tk_weighBeside_12 f   m v1 v2 v3 v4 v5 y10 y8.2) else (match f (some b3) v2 v3 y8.2 with
  | none => none
  | some y11 => (match egR y11.2.2.2.2.1 b3 2 5 with
  | none => none
  | some y12 => sp_Tk_weighBeside_12 f   m v1 v2 v3 (q_Codes_greater v4 (q_Codes_mustOf y11.1)) (q_Codes_greater v5 (q_Codes_canOf y11.1)) y12 y11.2)))) else none) else (match f (some b3) v2 v3 σ with
  | none => none
  | some y5 => (match egR y5.2.2.2.2.1 b3 2 5 with
  | none => none
  | some y6 => sp_Tk_weighBeside_12 f   m v1 v2 v3 (q_Codes_greater v4 (q_Codes_mustOf y5.1)) (q_Codes_greater v5 (q_Codes_canOf y5.1)) y6 y5.2))))
theorem c_sp_Tk_weighBeside_12 (hf : tw_IH l F a A D f) (hD : D ≤ d) {r : Int32 × ck_S} : ∀ (m : Nat) (v1 : Option Nat) (v2 : Int32) (v3 : Int32) (v4 : Int32) (v5 : Int32) (v6 : Option Nat) (σ : ck_S), sp_Tk_weighBeside_12 f  m v1 v2 v3 v4 v5 v6 σ = some r → ∀ x7 : Option Value, ck_Go l F (d + 1) m_Tk_weighBeside tk_K a A 12 ([some (.ref a), some (va_rf v1), some (.int v2), some (.int v3), some (.int v4), some (.int v5), some (va_rf v6), x7]) [] σ (fun w σ' => w = some (.int r.1) ∧ σ' = r.2) := by
  intro m
  induction m with
  | zero => intro v1 v2 v3 v4 v5 v6 σ hp; cases hp
  | succ m ihm =>
    intro v1 v2 v3 v4 v5 v6 σ hp x7
    unfold sp_Tk_weighBeside_12 at hp
    refine ck_p (L' := [some (.ref a), some (va_rf v1), some (.int v2), some (.int v3), some (.int v4), some (.int v5), some (va_rf v6), x7]) (st' := [va_rf v6]) k_Tk_weighBeside rfl (by cases v6 <;> rfl) ?_
    cases v6 with
    | none =>
      try dsimp only at hp
      refine ck_j k_Tk_weighBeside rfl rfl ?_
      refine ck_p (L' := [some (.ref a), some (va_rf v1), some (.int v2), some (.int v3), some (.int v4), some (.int v5), some (.null), x7]) (st' := [.int v4]) k_Tk_weighBeside rfl rfl ?_
      refine ck_p (L' := [some (.ref a), some (va_rf v1), some (.int v2), some (.int v3), some (.int v4), some (.int v5), some (.null), x7]) (st' := [.int v5, .int v4]) k_Tk_weighBeside rfl rfl ?_
      refine ck_isB (M' := m_Codes_pair) (As := [.int v4, .int v5]) k_Tk_weighBeside rfl rfl rfl rfl rfl rfl (Nat.le_of_ble_eq_true rfl) (c_q_Codes_pair rfl) (fun _ => ?_)
      cases hp
      exact ck_ret (v := some (.int _)) k_Tk_weighBeside rfl rfl trivial rfl ⟨rfl, rfl⟩
    | some b3 =>
      try dsimp only at hp
      refine ck_j k_Tk_weighBeside rfl rfl ?_
      refine ck_p (L' := [some (.ref a), some (va_rf v1), some (.int v2), some (.int v3), some (.int v4), some (.int v5), some (.ref b3), x7]) (st' := [.int v2]) k_Tk_weighBeside rfl rfl ?_
      refine ck_if k_Tk_weighBeside rfl rfl rfl (fun h4 => ?_) (fun h4 => ?_)
      · skip
        rw [if_neg (show ¬ (v2 = 0) from h4)] at hp
        refine ck_p (L' := [some (.ref a), some (va_rf v1), some (.int v2), some (.int v3), some (.int v4), some (.int v5), some (.ref b3), x7]) (st' := [.ref a]) k_Tk_weighBeside rfl rfl ?_
        refine ck_p (L' := [some (.ref a), some (va_rf v1), some (.int v2), some (.int v3), some (.int v4), some (.int v5), some (.ref b3), x7]) (st' := [.ref b3, .ref a]) k_Tk_weighBeside rfl rfl ?_
        refine ck_p (L' := [some (.ref a), some (va_rf v1), some (.int v2), some (.int v3), some (.int v4), some (.int v5), some (.ref b3), x7]) (st' := [.int v2, .ref b3, .ref a]) k_Tk_weighBeside rfl rfl ?_
        refine ck_p (L' := [some (.ref a), some (va_rf v1), some (.int v2), some (.int v3), some (.int v4), some (.int v5), some (.ref b3), x7]) (st' := [.int v3, .int v2, .ref b3, .ref a]) k_Tk_weighBeside rfl rfl ?_
        cases hy5 : f (some b3) v2 v3 σ with
        | none =>
          rw [hy5] at hp
          cases hp
        | some y5 =>
          rw [hy5] at hp
          try dsimp only at hp
          refine ck_ivB (M' := m_Tk_weigh) (As := [.ref b3, .int v2, .int v3]) k_Tk_weighBeside rfl rfl rfl rfl rfl rfl rfl (Nat.le_of_ble_eq_true rfl) (hf _ _ _ _ _ _ (by omega) hy5) (fun hby5 => ?_)
          refine ck_p (L' := [some (.ref a), some (va_rf v1), some (.int v2), some (.int v3), some (.int v4), some (.int v5), some (.ref b3), some (.int y5.1)]) (st' := []) k_Tk_weighBeside rfl rfl ?_
          refine ck_p (L' := [some (.ref a), some (va_rf v1), some (.int v2), some (.int v3), some (.int v4), some (.int v5), some (.ref b3), some (.int y5.1)]) (st' := [.int v4]) k_Tk_weighBeside rfl rfl ?_
          refine ck_p (L' := [some (.ref a), some (va_rf v1), some (.int v2), some (.int v3), some (.int v4), some (.int v5), some (.ref b3), some (.int y5.1)]) (st' := [.int y5.1, .int v4]) k_Tk_weighBeside rfl rfl ?_
          refine ck_isB (M' := m_Codes_mustOf) (As := [.int y5.1]) k_Tk_weighBeside rfl rfl rfl rfl rfl rfl (Nat.le_of_ble_eq_true rfl) (c_q_Codes_mustOf rfl) (fun _ => ?_)
          refine ck_isB (M' := m_Codes_greater) (As := [.int v4, .int (q_Codes_mustOf y5.1)]) k_Tk_weighBeside rfl rfl rfl rfl rfl rfl (Nat.le_of_ble_eq_true rfl) (c_q_Codes_greater rfl) (fun _ => ?_)
          refine ck_p (L' := [some (.ref a), some (va_rf v1), some (.int v2), some (.int v3), some (.int (q_Codes_greater v4 (q_Codes_mustOf y5.1))), some (.int v5), some (.ref b3), some (.int y5.1)]) (st' := []) k_Tk_weighBeside rfl rfl ?_
          refine ck_p (L' := [some (.ref a), some (va_rf v1), some (.int v2), some (.int v3), some (.int (q_Codes_greater v4 (q_Codes_mustOf y5.1))), some (.int v5), some (.ref b3), some (.int y5.1)]) (st' := [.int v5]) k_Tk_weighBeside rfl rfl ?_
          refine ck_p (L' := [some (.ref a), some (va_rf v1), some (.int v2), some (.int v3), some (.int (q_Codes_greater v4 (q_Codes_mustOf y5.1))), some (.int v5), some (.ref b3), some (.int y5.1)]) (st' := [.int y5.1, .int v5]) k_Tk_weighBeside rfl rfl ?_
          refine ck_isB (M' := m_Codes_canOf) (As := [.int y5.1]) k_Tk_weighBeside rfl rfl rfl rfl rfl rfl (Nat.le_of_ble_eq_true rfl) (c_q_Codes_canOf rfl) (fun _ => ?_)
          refine ck_isB (M' := m_Codes_greater) (As := [.int v5, .int (q_Codes_canOf y5.1)]) k_Tk_weighBeside rfl rfl rfl rfl rfl rfl (Nat.le_of_ble_eq_true rfl) (c_q_Codes_greater rfl) (fun _ => ?_)
          refine ck_p (L' := [some (.ref a), some (va_rf v1), some (.int v2), some (.int v3), some (.int (q_Codes_greater v4 (q_Codes_mustOf y5.1))), some (.int (q_Codes_greater v5 (q_Codes_canOf y5.1))), some (.ref b3), some (.int y5.1)]) (st' := []) k_Tk_weighBeside rfl rfl ?_
          refine ck_p (L' := [some (.ref a), some (va_rf v1), some (.int v2), some (.int v3), some (.int (q_Codes_greater v4 (q_Codes_mustOf y5.1))), some (.int (q_Codes_greater v5 (q_Codes_canOf y5.1))), some (.ref b3), some (.int y5.1)]) (st' := [.ref b3]) k_Tk_weighBeside rfl rfl ?_
          cases hy6 : egR y5.2.2.2.2.1 b3 2 5 with
          | none =>
            rw [hy6] at hp
            cases hp
          | some y6 =>
            rw [hy6] at hp
            try dsimp only at hp
            refine ck_gE k_Tk_weighBeside rfl rfl rfl (egR_of hy6) ?_
            refine ck_p (L' := [some (.ref a), some (va_rf v1), some (.int v2), some (.int v3), some (.int (q_Codes_greater v4 (q_Codes_mustOf y5.1))), some (.int (q_Codes_greater v5 (q_Codes_canOf y5.1))), some (va_rf y6), some (.int y5.1)]) (st' := []) k_Tk_weighBeside rfl (by cases y6 <;> rfl) ?_
            refine ck_j k_Tk_weighBeside rfl rfl ?_
            exact ihm _ _ _ _ _ _ _ hp _
      · skip
        rw [if_pos (show v2 = 0 from h4)] at hp
        refine ck_p (L' := [some (.ref a), some (va_rf v1), some (.int v2), some (.int v3), some (.int v4), some (.int v5), some (.ref b3), x7]) (st' := [.ref b3]) k_Tk_weighBeside rfl rfl ?_
        refine ck_p (L' := [some (.ref a), some (va_rf v1), some (.int v2), some (.int v3), some (.int v4), some (.int v5), some (.ref b3), x7]) (st' := [.ref a, .ref b3]) k_Tk_weighBeside rfl rfl ?_
        refine ck_g k_Tk_weighBeside rfl rfl rfl rfl ?_
        by_cases g7 : eo σ.2.2.2.1 b3 2 = true
        · rw [if_pos g7] at hp
          cases hy8 : sp_Node_standsIn  b3 (σ.1 2) σ with
          | none =>
            rw [hy8] at hp
            cases hp
          | some y8 =>
            rw [hy8] at hp
            try dsimp only at hp
            refine ck_ivO (M' := m_Node_standsIn) (As := [.int (σ.1 2)]) k_Tk_weighBeside rfl rfl rfl rfl rfl g7 rfl rfl (Nat.le_of_ble_eq_true rfl) (c_sp_Node_standsIn  hy8) (fun hby8 => ?_)
            refine ck_if k_Tk_weighBeside rfl rfl rfl (fun h9 => ?_) (fun h9 => ?_)
            · skip
              rw [if_pos (show y8.1 = 0 from h9)] at hp
              refine ck_p (L' := [some (.ref a), some (va_rf v1), some (.int v2), some (.int v3), some (.int v4), some (.int v5), some (.ref b3), x7]) (st' := [.ref b3]) k_Tk_weighBeside rfl rfl ?_
              cases hy10 : egR y8.2.2.2.2.1 b3 2 5 with
              | none =>
                rw [hy10] at hp
                cases hp
              | some y10 =>
                rw [hy10] at hp
                try dsimp only at hp
                refine ck_gE k_Tk_weighBeside rfl rfl rfl (egR_of hy10) ?_
                refine ck_p (L' := [some (.ref a), some (va_rf v1), some (.int v2), some (.int v3), some (.int v4), some (.int v5), some (va_rf y10), x7]) (st' := []) k_Tk_weighBeside rfl (by cases y10 <;> rfl) ?_
                refine ck_j k_Tk_weighBeside rfl rfl ?_
                exact ihm _ _ _ _ _ _ _ hp _
            · skip
              rw [if_neg (show ¬ (y8.1 = 0) from h9)] at hp
              refine ck_p (L' := [some (.ref a), some (va_rf v1), some (.int v2), some (.int v3), some (.int v4), some (.int v5), some (.ref b3), x7]) (st' := [.ref a]) k_Tk_weighBeside rfl rfl ?_
              refine ck_p (L' := [some (.ref a), some (va_rf v1), some (.int v2), some (.int v3), some (.int v4), some (.int v5), some (.ref b3), x7]) (st' := [.ref b3, .ref a]) k_Tk_weighBeside rfl rfl ?_
              refine ck_p (L' := [some (.ref a), some (va_rf v1), some (.int v2), some (.int v3), some (.int v4), some (.int v5), some (.ref b3), x7]) (st' := [.int v2, .ref b3, .ref a]) k_Tk_weighBeside rfl rfl ?_
              refine ck_p (L' := [some (.ref a), some (va_rf v1), some (.int v2), some (.int v3), some (.int v4), some (.int v5), some (.ref b3), x7]) (st' := [.int v3, .int v2, .ref b3, .ref a]) k_Tk_weighBeside rfl rfl ?_
              cases hy11 : f (some b3) v2 v3 y8.2 with
              | none =>
                rw [hy11] at hp
                cases hp
              | some y11 =>
                rw [hy11] at hp
                try dsimp only at hp
                refine ck_ivB (M' := m_Tk_weigh) (As := [.ref b3, .int v2, .int v3]) k_Tk_weighBeside rfl rfl rfl rfl rfl rfl rfl (Nat.le_of_ble_eq_true rfl) (hf _ _ _ _ _ _ (by omega) hy11) (fun hby11 => ?_)
                refine ck_p (L' := [some (.ref a), some (va_rf v1), some (.int v2), some (.int v3), some (.int v4), some (.int v5), some (.ref b3), some (.int y11.1)]) (st' := []) k_Tk_weighBeside rfl rfl ?_
                refine ck_p (L' := [some (.ref a), some (va_rf v1), some (.int v2), some (.int v3), some (.int v4), some (.int v5), some (.ref b3), some (.int y11.1)]) (st' := [.int v4]) k_Tk_weighBeside rfl rfl ?_
                refine ck_p (L' := [some (.ref a), some (va_rf v1), some (.int v2), some (.int v3), some (.int v4), some (.int v5), some (.ref b3), some (.int y11.1)]) (st' := [.int y11.1, .int v4]) k_Tk_weighBeside rfl rfl ?_
                refine ck_isB (M' := m_Codes_mustOf) (As := [.int y11.1]) k_Tk_weighBeside rfl rfl rfl rfl rfl rfl (Nat.le_of_ble_eq_true rfl) (c_q_Codes_mustOf rfl) (fun _ => ?_)
                refine ck_isB (M' := m_Codes_greater) (As := [.int v4, .int (q_Codes_mustOf y11.1)]) k_Tk_weighBeside rfl rfl rfl rfl rfl rfl (Nat.le_of_ble_eq_true rfl) (c_q_Codes_greater rfl) (fun _ => ?_)
                refine ck_p (L' := [some (.ref a), some (va_rf v1), some (.int v2), some (.int v3), some (.int (q_Codes_greater v4 (q_Codes_mustOf y11.1))), some (.int v5), some (.ref b3), some (.int y11.1)]) (st' := []) k_Tk_weighBeside rfl rfl ?_
                refine ck_p (L' := [some (.ref a), some (va_rf v1), some (.int v2), some (.int v3), some (.int (q_Codes_greater v4 (q_Codes_mustOf y11.1))), some (.int v5), some (.ref b3), some (.int y11.1)]) (st' := [.int v5]) k_Tk_weighBeside rfl rfl ?_
                refine ck_p (L' := [some (.ref a), some (va_rf v1), some (.int v2), some (.int v3), some (.int (q_Codes_greater v4 (q_Codes_mustOf y11.1))), some (.int v5), some (.ref b3), some (.int y11.1)]) (st' := [.int y11.1, .int v5]) k_Tk_weighBeside rfl rfl ?_
                refine ck_isB (M' := m_Codes_canOf) (As := [.int y11.1]) k_Tk_weighBeside rfl rfl rfl rfl rfl rfl (Nat.le_of_ble_eq_true rfl) (c_q_Codes_canOf rfl) (fun _ => ?_)
                refine ck_isB (M' := m_Codes_greater) (As := [.int v5, .int (q_Codes_canOf y11.1)]) k_Tk_weighBeside rfl rfl rfl rfl rfl rfl (Nat.le_of_ble_eq_true rfl) (c_q_Codes_greater rfl) (fun _ => ?_)
                refine ck_p (L' := [some (.ref a), some (va_rf v1), some (.int v2), some (.int v3), some (.int (q_Codes_greater v4 (q_Codes_mustOf y11.1))), some (.int (q_Codes_greater v5 (q_Codes_canOf y11.1))), some (.ref b3), some (.int y11.1)]) (st' := []) k_Tk_weighBeside rfl rfl ?_
                refine ck_p (L' := [some (.ref a), some (va_rf v1), some (.int v2), some (.int v3), some (.int (q_Codes_greater v4 (q_Codes_mustOf y11.1))), some (.int (q_Codes_greater v5 (q_Codes_canOf y11.1))), some (.ref b3), some (.int y11.1)]) (st' := [.ref b3]) k_Tk_weighBeside rfl rfl ?_
                cases hy12 : egR y11.2.2.2.2.1 b3 2 5 with
                | none =>
                  rw [hy12] at hp
                  cases hp
                | some y12 =>
                  rw [hy12] at hp
                  try dsimp only at hp
                  refine ck_gE k_Tk_weighBeside rfl rfl rfl (egR_of hy12) ?_
                  refine ck_p (L' := [some (.ref a), some (va_rf v1), some (.int v2), some (.int v3), some (.int (q_Codes_greater v4 (q_Codes_mustOf y11.1))), some (.int (q_Codes_greater v5 (q_Codes_canOf y11.1))), some (va_rf y12), some (.int y11.1)]) (st' := []) k_Tk_weighBeside rfl (by cases y12 <;> rfl) ?_
                  refine ck_j k_Tk_weighBeside rfl rfl ?_
                  exact ihm _ _ _ _ _ _ _ hp _
        · rw [if_neg g7] at hp
          cases hp
def sp_Tk_weighBeside (f : Option Nat → Int32 → Int32 → ck_S → Option (Int32 × ck_S)) (v1 : Option Nat) (v2 : Int32) (v3 : Int32) (σ : ck_S) : Option (Int32 × ck_S) := (match v1 with
  | none => none
  | some b1 => (match egR σ.2.2.2.1 b1 2 2 with
  | none => none
  | some y2 => sp_Tk_weighBeside_12 f  2601 (some b1) v2 v3 1 1 y2 σ))
theorem c_sp_Tk_weighBeside (hf : tw_IH l F a A D f) (hD : D ≤ d) {v1 : Option Nat} {v2 : Int32} {v3 : Int32} {σ : ck_S} {r : Int32 × ck_S} (hp : sp_Tk_weighBeside f v1 v2 v3 σ = some r) : ck_Has l F (d + 1) m_Tk_weighBeside tk_K a A [.ref a, va_rf v1, .int v2, .int v3] σ (fun w σ' => w = some (.int r.1) ∧ σ' = r.2) := by
  refine ck_meth (k := 4) (L := [some (.ref a), some (va_rf v1), some (.int v2), some (.int v3), none, none, none, none]) pn_Tk (by cases v1 <;> rfl) (by cases v1 <;> exact (Nat.le_of_ble_eq_true rfl)) ?_
  unfold sp_Tk_weighBeside at hp
  refine ck_p (L' := [some (.ref a), some (va_rf v1), some (.int v2), some (.int v3), none, none, none, none]) (st' := [.int 1]) k_Tk_weighBeside rfl rfl ?_
  refine ck_p (L' := [some (.ref a), some (va_rf v1), some (.int v2), some (.int v3), some (.int 1), none, none, none]) (st' := []) k_Tk_weighBeside rfl rfl ?_
  refine ck_p (L' := [some (.ref a), some (va_rf v1), some (.int v2), some (.int v3), some (.int 1), none, none, none]) (st' := [.int 1]) k_Tk_weighBeside rfl rfl ?_
  refine ck_p (L' := [some (.ref a), some (va_rf v1), some (.int v2), some (.int v3), some (.int 1), some (.int 1), none, none]) (st' := []) k_Tk_weighBeside rfl rfl ?_
  refine ck_p (L' := [some (.ref a), some (va_rf v1), some (.int v2), some (.int v3), some (.int 1), some (.int 1), none, none]) (st' := [va_rf v1]) k_Tk_weighBeside rfl (by cases v1 <;> rfl) ?_
  cases v1 with
  | none =>
    try dsimp only at hp
    cases hp
  | some b1 =>
    try dsimp only at hp
    cases hy2 : egR σ.2.2.2.1 b1 2 2 with
    | none =>
      rw [hy2] at hp
      cases hp
    | some y2 =>
      rw [hy2] at hp
      try dsimp only at hp
      refine ck_gE k_Tk_weighBeside rfl rfl rfl (egR_of hy2) ?_
      refine ck_p (L' := [some (.ref a), some (.ref b1), some (.int v2), some (.int v3), some (.int 1), some (.int 1), some (va_rf y2), none]) (st' := []) k_Tk_weighBeside rfl (by cases y2 <;> rfl) ?_
      exact c_sp_Tk_weighBeside_12 hf (by omega)  _ _ _ _ _ _ _ _ hp _
def sp_Tk_weigh (f : Option Nat → Int32 → Int32 → ck_S → Option (Int32 × ck_S)) (v1 : Option Nat) (v2 : Int32) (v3 : Int32) (σ : ck_S) : Option (Int32 × ck_S) := (match v1 with
  | none => some ((q_Tk_ending 1 v3), σ)
  | some b1 => (match egI σ.2.2.2.1 b1 2 0 with
  | none => none
  | some y2 => (if y2 = 1 then (if v2 = 0 then some ((q_Tk_ending 1 v3), σ) else some ((q_Tk_ending 2 v3), σ)) else (if y2 = 2 then (match egI σ.2.2.2.1 b1 2 1 with
  | none => none
  | some y6 => (if v3 = 0 then some ((q_Tk_ending 1 v3), ((upd (upd σ.1 6 ((σ.1 6) ||| y6)) 5 ((σ.1 5) ||| 0)), σ.2.1, σ.2.2.1, σ.2.2.2.1, σ.2.2.2.2.1, σ.2.2.2.2.2)) else some ((q_Tk_ending 1 v3), ((upd (upd σ.1 6 ((σ.1 6) ||| y6)) 5 ((σ.1 5) ||| y6)), σ.2.1, σ.2.2.1, σ.2.2.2.1, σ.2.2.2.2.1, σ.2.2.2.2.2)))) else (if y2 = 3 then (match sp_Tk_weighAsk f (some b1) v2 v3 σ with
  | none => none
  | some y10 => some (y10.1, y10.2)) else (if y2 = 4 then (match sp_Tk_weighLoop f (some b1) v2 v3 σ with
  | none => none
  | some y12 => some (y12.1, y12.2)) else (if y2 = 5 then (match sp_Tk_weighSuspend f (some b1) v2 v3 σ with
  | none => none
  | some y14 => some (y14.1, y14.2)) else (if y2 = 6 then (match egR σ.2.2.2.1 b1 2 2 with
  | none => none
  | some y16 => (match f y16 v2 v3 σ with
  | none => none
  | some y17 => some ((q_Tk_behindTrap y17.1), y17.2))) else (if y2 = 7 then (match egI σ.2.2.2.1 b1 2 1 with
  | none => none
  | some y19 => some ((q_Tk_ending ((1 : Int32) <<< (y19 &&& 31)) v3), σ)) else (if y2 = 8 then (match sp_Tk_weighLocal f (some b1) v2 v3 σ with
  | none => none
  | some y21 => some (y21.1, y21.2)) else (if y2 = 9 then (match sp_Tk_weighRow f (some b1) v2 v3 σ with
  | none => none
  | some y23 => some (y23.1, y23.2)) else (if y2 = 10 then (match sp_Tk_weighBeside f (some b1) v2 v3 σ with
  | none => none
  | some y25 => some (y25.1, y25.2)) else some ((q_Tk_ending 1 v3), σ)))))))))))))
theorem c_sp_Tk_weigh (hf : tw_IH l F a A D f) (hD : D ≤ d) {v1 : Option Nat} {v2 : Int32} {v3 : Int32} {σ : ck_S} {r : Int32 × ck_S} (hp : sp_Tk_weigh f v1 v2 v3 σ = some r) : ck_Has l F (d + 3) m_Tk_weigh tk_K a A [.ref a, va_rf v1, .int v2, .int v3] σ (fun w σ' => w = some (.int r.1) ∧ σ' = r.2) := by
  refine ck_meth (k := 0) (L := [some (.ref a), some (va_rf v1), some (.int v2), some (.int v3)]) pn_Tk (by cases v1 <;> rfl) (by cases v1 <;> exact (Nat.le_of_ble_eq_true rfl)) ?_
  unfold sp_Tk_weigh at hp
  refine ck_p (L' := [some (.ref a), some (va_rf v1), some (.int v2), some (.int v3)]) (st' := [va_rf v1]) k_Tk_weigh rfl (by cases v1 <;> rfl) ?_
  cases v1 with
  | none =>
    try dsimp only at hp
    refine ck_j k_Tk_weigh rfl rfl ?_
    refine ck_p (L' := [some (.ref a), some (.null), some (.int v2), some (.int v3)]) (st' := [.int 1]) k_Tk_weigh rfl rfl ?_
    refine ck_p (L' := [some (.ref a), some (.null), some (.int v2), some (.int v3)]) (st' := [.int v3, .int 1]) k_Tk_weigh rfl rfl ?_
    refine ck_isB (M' := m_Tk_ending) (As := [.int 1, .int v3]) k_Tk_weigh rfl rfl rfl rfl rfl rfl (Nat.le_of_ble_eq_true rfl) (c_q_Tk_ending rfl) (fun _ => ?_)
    cases hp
    exact ck_ret (v := some (.int _)) k_Tk_weigh rfl rfl trivial rfl ⟨rfl, rfl⟩
  | some b1 =>
    try dsimp only at hp
    refine ck_j k_Tk_weigh rfl rfl ?_
    refine ck_p (L' := [some (.ref a), some (.ref b1), some (.int v2), some (.int v3)]) (st' := [.ref b1]) k_Tk_weigh rfl rfl ?_
    cases hy2 : egI σ.2.2.2.1 b1 2 0 with
    | none =>
      rw [hy2] at hp
      cases hp
    | some y2 =>
      rw [hy2] at hp
      try dsimp only at hp
      refine ck_gE k_Tk_weigh rfl rfl rfl (egI_of hy2) ?_
      by_cases h3 : y2 = 1
      · rw [if_pos h3] at hp
        refine ck_tJ (tgt := 68) k_Tk_weigh rfl rfl h3 (by decide) (by decide) rfl rfl ?_
        refine ck_p (L' := [some (.ref a), some (.ref b1), some (.int v2), some (.int v3)]) (st' := [.int v2]) k_Tk_weigh rfl rfl ?_
        refine ck_if k_Tk_weigh rfl rfl rfl (fun h4 => ?_) (fun h4 => ?_)
        · skip
          rw [if_pos (show v2 = 0 from h4)] at hp
          refine ck_p (L' := [some (.ref a), some (.ref b1), some (.int v2), some (.int v3)]) (st' := [.int 1]) k_Tk_weigh rfl rfl ?_
          refine ck_p (L' := [some (.ref a), some (.ref b1), some (.int v2), some (.int v3)]) (st' := [.int v3, .int 1]) k_Tk_weigh rfl rfl ?_
          refine ck_isB (M' := m_Tk_ending) (As := [.int 1, .int v3]) k_Tk_weigh rfl rfl rfl rfl rfl rfl (Nat.le_of_ble_eq_true rfl) (c_q_Tk_ending rfl) (fun _ => ?_)
          cases hp
          exact ck_ret (v := some (.int _)) k_Tk_weigh rfl rfl trivial rfl ⟨rfl, rfl⟩
        · skip
          rw [if_neg (show ¬ (v2 = 0) from h4)] at hp
          refine ck_p (L' := [some (.ref a), some (.ref b1), some (.int v2), some (.int v3)]) (st' := [.int 2]) k_Tk_weigh rfl rfl ?_
          refine ck_j k_Tk_weigh rfl rfl ?_
          refine ck_p (L' := [some (.ref a), some (.ref b1), some (.int v2), some (.int v3)]) (st' := [.int v3, .int 2]) k_Tk_weigh rfl rfl ?_
          refine ck_isB (M' := m_Tk_ending) (As := [.int 2, .int v3]) k_Tk_weigh rfl rfl rfl rfl rfl rfl (Nat.le_of_ble_eq_true rfl) (c_q_Tk_ending rfl) (fun _ => ?_)
          cases hp
          exact ck_ret (v := some (.int _)) k_Tk_weigh rfl rfl trivial rfl ⟨rfl, rfl⟩
      · rw [if_neg h3] at hp
        by_cases h5 : y2 = 2
        · rw [if_pos h5] at hp
          refine ck_tJ (tgt := 82) k_Tk_weigh rfl rfl h5 (by decide) (by decide) rfl rfl ?_
          refine ck_p (L' := [some (.ref a), some (.ref b1), some (.int v2), some (.int v3)]) (st' := [.ref a]) k_Tk_weigh rfl rfl ?_
          refine ck_p (L' := [some (.ref a), some (.ref b1), some (.int v2), some (.int v3)]) (st' := [.ref a, .ref a]) k_Tk_weigh rfl rfl ?_
          refine ck_g k_Tk_weigh rfl rfl rfl rfl ?_
          refine ck_p (L' := [some (.ref a), some (.ref b1), some (.int v2), some (.int v3)]) (st' := [.ref b1, .int (σ.1 6), .ref a]) k_Tk_weigh rfl rfl ?_
          cases hy6 : egI σ.2.2.2.1 b1 2 1 with
          | none =>
            rw [hy6] at hp
            cases hp
          | some y6 =>
            rw [hy6] at hp
            try dsimp only at hp
            refine ck_gE k_Tk_weigh rfl rfl rfl (egI_of hy6) ?_
            refine ck_p (L' := [some (.ref a), some (.ref b1), some (.int v2), some (.int v3)]) (st' := [.int ((σ.1 6) ||| y6), .ref a]) k_Tk_weigh rfl rfl ?_
            refine ck_pt k_Tk_weigh rfl rfl rfl trivial (Nat.le_of_ble_eq_true rfl) rfl ?_
            refine ck_p (L' := [some (.ref a), some (.ref b1), some (.int v2), some (.int v3)]) (st' := [.ref a]) k_Tk_weigh rfl rfl ?_
            refine ck_p (L' := [some (.ref a), some (.ref b1), some (.int v2), some (.int v3)]) (st' := [.ref a, .ref a]) k_Tk_weigh rfl rfl ?_
            refine ck_g k_Tk_weigh rfl rfl rfl rfl ?_
            refine ck_p (L' := [some (.ref a), some (.ref b1), some (.int v2), some (.int v3)]) (st' := [.int v3, .int (σ.1 5), .ref a]) k_Tk_weigh rfl rfl ?_
            refine ck_if k_Tk_weigh rfl rfl rfl (fun h7 => ?_) (fun h7 => ?_)
            · skip
              rw [if_pos (show v3 = 0 from h7)] at hp
              refine ck_p (L' := [some (.ref a), some (.ref b1), some (.int v2), some (.int v3)]) (st' := [.int 0, .int (σ.1 5), .ref a]) k_Tk_weigh rfl rfl ?_
              refine ck_p (L' := [some (.ref a), some (.ref b1), some (.int v2), some (.int v3)]) (st' := [.int ((σ.1 5) ||| 0), .ref a]) k_Tk_weigh rfl rfl ?_
              refine ck_pt k_Tk_weigh rfl rfl rfl trivial (Nat.le_of_ble_eq_true rfl) rfl ?_
              refine ck_p (L' := [some (.ref a), some (.ref b1), some (.int v2), some (.int v3)]) (st' := [.int 1]) k_Tk_weigh rfl rfl ?_
              refine ck_p (L' := [some (.ref a), some (.ref b1), some (.int v2), some (.int v3)]) (st' := [.int v3, .int 1]) k_Tk_weigh rfl rfl ?_
              refine ck_isB (M' := m_Tk_ending) (As := [.int 1, .int v3]) k_Tk_weigh rfl rfl rfl rfl rfl rfl (Nat.le_of_ble_eq_true rfl) (c_q_Tk_ending rfl) (fun _ => ?_)
              cases hp
              exact ck_ret (v := some (.int _)) k_Tk_weigh rfl rfl trivial rfl ⟨rfl, rfl⟩
            · skip
              rw [if_neg (show ¬ (v3 = 0) from h7)] at hp
              refine ck_p (L' := [some (.ref a), some (.ref b1), some (.int v2), some (.int v3)]) (st' := [.ref b1, .int (σ.1 5), .ref a]) k_Tk_weigh rfl rfl ?_
              refine ck_gE k_Tk_weigh rfl rfl rfl (egI_of hy6) ?_
              refine ck_j k_Tk_weigh rfl rfl ?_
              refine ck_p (L' := [some (.ref a), some (.ref b1), some (.int v2), some (.int v3)]) (st' := [.int ((σ.1 5) ||| y6), .ref a]) k_Tk_weigh rfl rfl ?_
              refine ck_pt k_Tk_weigh rfl rfl rfl trivial (Nat.le_of_ble_eq_true rfl) rfl ?_
              refine ck_p (L' := [some (.ref a), some (.ref b1), some (.int v2), some (.int v3)]) (st' := [.int 1]) k_Tk_weigh rfl rfl ?_
              refine ck_p (L' := [some (.ref a), some (.ref b1), some (.int v2), some (.int v3)]) (st' := [.int v3, .int 1]) k_Tk_weigh rfl rfl ?_
              refine ck_isB (M' := m_Tk_ending) (As := [.int 1, .int v3]) k_Tk_weigh rfl rfl rfl rfl rfl rfl (Nat.le_of_ble_eq_true rfl) (c_q_Tk_ending rfl) (fun _ => ?_)
              cases hp
              exact ck_ret (v := some (.int _)) k_Tk_weigh rfl rfl trivial rfl ⟨rfl, rfl⟩
        · rw [if_neg h5] at hp
          by_cases h9 : y2 = 3
          · rw [if_pos h9] at hp
            refine ck_tJ (tgt := 133) k_Tk_weigh rfl rfl h9 (by decide) (by decide) rfl rfl ?_
            refine ck_p (L' := [some (.ref a), some (.ref b1), some (.int v2), some (.int v3)]) (st' := [.ref a]) k_Tk_weigh rfl rfl ?_
            refine ck_p (L' := [some (.ref a), some (.ref b1), some (.int v2), some (.int v3)]) (st' := [.ref b1, .ref a]) k_Tk_weigh rfl rfl ?_
            refine ck_p (L' := [some (.ref a), some (.ref b1), some (.int v2), some (.int v3)]) (st' := [.int v2, .ref b1, .ref a]) k_Tk_weigh rfl rfl ?_
            refine ck_p (L' := [some (.ref a), some (.ref b1), some (.int v2), some (.int v3)]) (st' := [.int v3, .int v2, .ref b1, .ref a]) k_Tk_weigh rfl rfl ?_
            cases hy10 : sp_Tk_weighAsk f (some b1) v2 v3 σ with
            | none =>
              rw [hy10] at hp
              cases hp
            | some y10 =>
              rw [hy10] at hp
              try dsimp only at hp
              refine ck_ivB (M' := m_Tk_weighAsk) (As := [.ref b1, .int v2, .int v3]) k_Tk_weigh rfl rfl rfl rfl rfl rfl rfl (Nat.le_of_ble_eq_true rfl) (c_sp_Tk_weighAsk hf (by omega) hy10) (fun hby10 => ?_)
              cases hp
              exact ck_ret (v := some (.int _)) k_Tk_weigh rfl rfl trivial rfl ⟨rfl, rfl⟩
          · rw [if_neg h9] at hp
            by_cases h11 : y2 = 4
            · rw [if_pos h11] at hp
              refine ck_tJ (tgt := 141) k_Tk_weigh rfl rfl h11 (by decide) (by decide) rfl rfl ?_
              refine ck_p (L' := [some (.ref a), some (.ref b1), some (.int v2), some (.int v3)]) (st' := [.ref a]) k_Tk_weigh rfl rfl ?_
              refine ck_p (L' := [some (.ref a), some (.ref b1), some (.int v2), some (.int v3)]) (st' := [.ref b1, .ref a]) k_Tk_weigh rfl rfl ?_
              refine ck_p (L' := [some (.ref a), some (.ref b1), some (.int v2), some (.int v3)]) (st' := [.int v2, .ref b1, .ref a]) k_Tk_weigh rfl rfl ?_
              refine ck_p (L' := [some (.ref a), some (.ref b1), some (.int v2), some (.int v3)]) (st' := [.int v3, .int v2, .ref b1, .ref a]) k_Tk_weigh rfl rfl ?_
              cases hy12 : sp_Tk_weighLoop f (some b1) v2 v3 σ with
              | none =>
                rw [hy12] at hp
                cases hp
              | some y12 =>
                rw [hy12] at hp
                try dsimp only at hp
                refine ck_ivB (M' := m_Tk_weighLoop) (As := [.ref b1, .int v2, .int v3]) k_Tk_weigh rfl rfl rfl rfl rfl rfl rfl (Nat.le_of_ble_eq_true rfl) (c_sp_Tk_weighLoop hf (by omega) hy12) (fun hby12 => ?_)
                cases hp
                exact ck_ret (v := some (.int _)) k_Tk_weigh rfl rfl trivial rfl ⟨rfl, rfl⟩
            · rw [if_neg h11] at hp
              by_cases h13 : y2 = 5
              · rw [if_pos h13] at hp
                refine ck_tJ (tgt := 149) k_Tk_weigh rfl rfl h13 (by decide) (by decide) rfl rfl ?_
                refine ck_p (L' := [some (.ref a), some (.ref b1), some (.int v2), some (.int v3)]) (st' := [.ref a]) k_Tk_weigh rfl rfl ?_
                refine ck_p (L' := [some (.ref a), some (.ref b1), some (.int v2), some (.int v3)]) (st' := [.ref b1, .ref a]) k_Tk_weigh rfl rfl ?_
                refine ck_p (L' := [some (.ref a), some (.ref b1), some (.int v2), some (.int v3)]) (st' := [.int v2, .ref b1, .ref a]) k_Tk_weigh rfl rfl ?_
                refine ck_p (L' := [some (.ref a), some (.ref b1), some (.int v2), some (.int v3)]) (st' := [.int v3, .int v2, .ref b1, .ref a]) k_Tk_weigh rfl rfl ?_
                cases hy14 : sp_Tk_weighSuspend f (some b1) v2 v3 σ with
                | none =>
                  rw [hy14] at hp
                  cases hp
                | some y14 =>
                  rw [hy14] at hp
                  try dsimp only at hp
                  refine ck_ivB (M' := m_Tk_weighSuspend) (As := [.ref b1, .int v2, .int v3]) k_Tk_weigh rfl rfl rfl rfl rfl rfl rfl (Nat.le_of_ble_eq_true rfl) (c_sp_Tk_weighSuspend hf (by omega) hy14) (fun hby14 => ?_)
                  cases hp
                  exact ck_ret (v := some (.int _)) k_Tk_weigh rfl rfl trivial rfl ⟨rfl, rfl⟩
              · rw [if_neg h13] at hp
                by_cases h15 : y2 = 6
                · rw [if_pos h15] at hp
                  refine ck_tJ (tgt := 157) k_Tk_weigh rfl rfl h15 (by decide) (by decide) rfl rfl ?_
                  refine ck_p (L' := [some (.ref a), some (.ref b1), some (.int v2), some (.int v3)]) (st' := [.ref a]) k_Tk_weigh rfl rfl ?_
                  refine ck_p (L' := [some (.ref a), some (.ref b1), some (.int v2), some (.int v3)]) (st' := [.ref b1, .ref a]) k_Tk_weigh rfl rfl ?_
                  cases hy16 : egR σ.2.2.2.1 b1 2 2 with
                  | none =>
                    rw [hy16] at hp
                    cases hp
                  | some y16 =>
                    rw [hy16] at hp
                    try dsimp only at hp
                    refine ck_gE k_Tk_weigh rfl rfl rfl (egR_of hy16) ?_
                    refine ck_p (L' := [some (.ref a), some (.ref b1), some (.int v2), some (.int v3)]) (st' := [.int v2, va_rf y16, .ref a]) k_Tk_weigh rfl rfl ?_
                    refine ck_p (L' := [some (.ref a), some (.ref b1), some (.int v2), some (.int v3)]) (st' := [.int v3, .int v2, va_rf y16, .ref a]) k_Tk_weigh rfl rfl ?_
                    cases hy17 : f y16 v2 v3 σ with
                    | none =>
                      rw [hy17] at hp
                      cases hp
                    | some y17 =>
                      rw [hy17] at hp
                      try dsimp only at hp
                      refine ck_ivB (M' := m_Tk_weigh) (As := [va_rf y16, .int v2, .int v3]) k_Tk_weigh rfl rfl rfl rfl rfl rfl rfl (Nat.le_of_ble_eq_true rfl) (hf _ _ _ _ _ _ (by omega) hy17) (fun hby17 => ?_)
                      refine ck_isB (M' := m_Tk_behindTrap) (As := [.int y17.1]) k_Tk_weigh rfl rfl rfl rfl rfl rfl (Nat.le_of_ble_eq_true rfl) (c_q_Tk_behindTrap rfl) (fun _ => ?_)
                      cases hp
                      exact ck_ret (v := some (.int _)) k_Tk_weigh rfl rfl trivial rfl ⟨rfl, rfl⟩
                · rw [if_neg h15] at hp
                  by_cases h18 : y2 = 7
                  · rw [if_pos h18] at hp
                    refine ck_tJ (tgt := 122) k_Tk_weigh rfl rfl h18 (by decide) (by decide) rfl rfl ?_
                    refine ck_p (L' := [some (.ref a), some (.ref b1), some (.int v2), some (.int v3)]) (st' := [.int 1]) k_Tk_weigh rfl rfl ?_
                    refine ck_p (L' := [some (.ref a), some (.ref b1), some (.int v2), some (.int v3)]) (st' := [.ref b1, .int 1]) k_Tk_weigh rfl rfl ?_
                    cases hy19 : egI σ.2.2.2.1 b1 2 1 with
                    | none =>
                      rw [hy19] at hp
                      cases hp
                    | some y19 =>
                      rw [hy19] at hp
                      try dsimp only at hp
                      refine ck_gE k_Tk_weigh rfl rfl rfl (egI_of hy19) ?_
                      refine ck_p (L' := [some (.ref a), some (.ref b1), some (.int v2), some (.int v3)]) (st' := [.int ((1 : Int32) <<< (y19 &&& 31))]) k_Tk_weigh rfl rfl ?_
                      refine ck_p (L' := [some (.ref a), some (.ref b1), some (.int v2), some (.int v3)]) (st' := [.int v3, .int ((1 : Int32) <<< (y19 &&& 31))]) k_Tk_weigh rfl rfl ?_
                      refine ck_isB (M' := m_Tk_ending) (As := [.int ((1 : Int32) <<< (y19 &&& 31)), .int v3]) k_Tk_weigh rfl rfl rfl rfl rfl rfl (Nat.le_of_ble_eq_true rfl) (c_q_Tk_ending rfl) (fun _ => ?_)
                      cases hp
                      exact ck_ret (v := some (.int _)) k_Tk_weigh rfl rfl trivial rfl ⟨rfl, rfl⟩
                  · rw [if_neg h18] at hp
                    by_cases h20 : y2 = 8
                    · rw [if_pos h20] at hp
                      refine ck_tJ (tgt := 171) k_Tk_weigh rfl rfl h20 (by decide) (by decide) rfl rfl ?_
                      refine ck_p (L' := [some (.ref a), some (.ref b1), some (.int v2), some (.int v3)]) (st' := [.ref a]) k_Tk_weigh rfl rfl ?_
                      refine ck_p (L' := [some (.ref a), some (.ref b1), some (.int v2), some (.int v3)]) (st' := [.ref b1, .ref a]) k_Tk_weigh rfl rfl ?_
                      refine ck_p (L' := [some (.ref a), some (.ref b1), some (.int v2), some (.int v3)]) (st' := [.int v2, .ref b1, .ref a]) k_Tk_weigh rfl rfl ?_
                      refine ck_p (L' := [some (.ref a), some (.ref b1), some (.int v2), some (.int v3)]) (st' := [.int v3, .int v2, .ref b1, .ref a]) k_Tk_weigh rfl rfl ?_
                      cases hy21 : sp_Tk_weighLocal f (some b1) v2 v3 σ with
                      | none =>
                        rw [hy21] at hp
                        cases hp
                      | some y21 =>
                        rw [hy21] at hp
                        try dsimp only at hp
                        refine ck_ivB (M' := m_Tk_weighLocal) (As := [.ref b1, .int v2, .int v3]) k_Tk_weigh rfl rfl rfl rfl rfl rfl rfl (Nat.le_of_ble_eq_true rfl) (c_sp_Tk_weighLocal hf (by omega) hy21) (fun hby21 => ?_)
                        cases hp
                        exact ck_ret (v := some (.int _)) k_Tk_weigh rfl rfl trivial rfl ⟨rfl, rfl⟩
                    · rw [if_neg h20] at hp
                      by_cases h22 : y2 = 9
                      · rw [if_pos h22] at hp
                        refine ck_tJ (tgt := 179) k_Tk_weigh rfl rfl h22 (by decide) (by decide) rfl rfl ?_
                        refine ck_p (L' := [some (.ref a), some (.ref b1), some (.int v2), some (.int v3)]) (st' := [.ref a]) k_Tk_weigh rfl rfl ?_
                        refine ck_p (L' := [some (.ref a), some (.ref b1), some (.int v2), some (.int v3)]) (st' := [.ref b1, .ref a]) k_Tk_weigh rfl rfl ?_
                        refine ck_p (L' := [some (.ref a), some (.ref b1), some (.int v2), some (.int v3)]) (st' := [.int v2, .ref b1, .ref a]) k_Tk_weigh rfl rfl ?_
                        refine ck_p (L' := [some (.ref a), some (.ref b1), some (.int v2), some (.int v3)]) (st' := [.int v3, .int v2, .ref b1, .ref a]) k_Tk_weigh rfl rfl ?_
                        cases hy23 : sp_Tk_weighRow f (some b1) v2 v3 σ with
                        | none =>
                          rw [hy23] at hp
                          cases hp
                        | some y23 =>
                          rw [hy23] at hp
                          try dsimp only at hp
                          refine ck_ivB (M' := m_Tk_weighRow) (As := [.ref b1, .int v2, .int v3]) k_Tk_weigh rfl rfl rfl rfl rfl rfl rfl (Nat.le_of_ble_eq_true rfl) (c_sp_Tk_weighRow hf (by omega) hy23) (fun hby23 => ?_)
                          cases hp
                          exact ck_ret (v := some (.int _)) k_Tk_weigh rfl rfl trivial rfl ⟨rfl, rfl⟩
                      · rw [if_neg h22] at hp
                        by_cases h24 : y2 = 10
                        · rw [if_pos h24] at hp
                          refine ck_tJ (tgt := 187) k_Tk_weigh rfl rfl h24 (by decide) (by decide) rfl rfl ?_
                          refine ck_p (L' := [some (.ref a), some (.ref b1), some (.int v2), some (.int v3)]) (st' := [.ref a]) k_Tk_weigh rfl rfl ?_
                          refine ck_p (L' := [some (.ref a), some (.ref b1), some (.int v2), some (.int v3)]) (st' := [.ref b1, .ref a]) k_Tk_weigh rfl rfl ?_
                          refine ck_p (L' := [some (.ref a), some (.ref b1), some (.int v2), some (.int v3)]) (st' := [.int v2, .ref b1, .ref a]) k_Tk_weigh rfl rfl ?_
                          refine ck_p (L' := [some (.ref a), some (.ref b1), some (.int v2), some (.int v3)]) (st' := [.int v3, .int v2, .ref b1, .ref a]) k_Tk_weigh rfl rfl ?_
                          cases hy25 : sp_Tk_weighBeside f (some b1) v2 v3 σ with
                          | none =>
                            rw [hy25] at hp
                            cases hp
                          | some y25 =>
                            rw [hy25] at hp
                            try dsimp only at hp
                            refine ck_ivB (M' := m_Tk_weighBeside) (As := [.ref b1, .int v2, .int v3]) k_Tk_weigh rfl rfl rfl rfl rfl rfl rfl (Nat.le_of_ble_eq_true rfl) (c_sp_Tk_weighBeside hf (by omega) hy25) (fun hby25 => ?_)
                            cases hp
                            exact ck_ret (v := some (.int _)) k_Tk_weigh rfl rfl trivial rfl ⟨rfl, rfl⟩
                        · rw [if_neg h24] at hp
                          refine ck_tO (tgt := 195) k_Tk_weigh rfl rfl (sw_Tk_weigh h3 h5 h9 h11 h13 h15 h18 h20 h22 h24) rfl ?_
                          refine ck_p (L' := [some (.ref a), some (.ref b1), some (.int v2), some (.int v3)]) (st' := [.int 1]) k_Tk_weigh rfl rfl ?_
                          refine ck_p (L' := [some (.ref a), some (.ref b1), some (.int v2), some (.int v3)]) (st' := [.int v3, .int 1]) k_Tk_weigh rfl rfl ?_
                          refine ck_isB (M' := m_Tk_ending) (As := [.int 1, .int v3]) k_Tk_weigh rfl rfl rfl rfl rfl rfl (Nat.le_of_ble_eq_true rfl) (c_q_Tk_ending rfl) (fun _ => ?_)
                          cases hp
                          exact ck_ret (v := some (.int _)) k_Tk_weigh rfl rfl trivial rfl ⟨rfl, rfl⟩
def tw : Nat → Option Nat → Int32 → Int32 → ck_S → Option (Int32 × ck_S)
  | 0 => fun _ _ _ _ => none
  | n + 1 => fun v b s σ => sp_Tk_weigh (tw n) v b s σ
theorem c_tw (n : Nat) : tw_IH l F a A (3 * n) (tw n) := by
  induction n with
  | zero => exact fun _ _ _ _ _ _ _ h => nomatch h
  | succ n ih =>
    intro dd v b s σ r hd h
    obtain ⟨d, rfl⟩ : ∃ d, dd = d + 3 := ⟨dd - 3, by omega⟩
    exact c_sp_Tk_weigh ih (by omega) h
theorem c_wa {n : Option Nat} {b s : Int32} {σ : ck_S} {r : Int32 × ck_S} (dd : Nat) (hd : 601 ≤ dd) (hp : sp_Tk_weighAlone (tw 200) n b s σ = some r) : ck_Has l F dd m_Tk_weighAlone tk_K a A [.ref a, va_rf n, .int b, .int s] σ (fun w σ' => w = some (.int r.1) ∧ σ' = r.2) := by
  obtain ⟨d, rfl⟩ : ∃ d, dd = d + 1 := ⟨dd - 1, by omega⟩
  exact c_sp_Tk_weighAlone (c_tw 200) (by omega) hp
def sp_Tk_settles_8   : Nat → Option Nat → Int32 → Int32 → Int32 → ck_S → Option (Int32 × ck_S)
  | 0, _, _, _, _, _ => none
  | m + 1, v1, v2, v3, v4, σ => (if (26 : Int32) ≤ v4 then (if v3 = 0 then some (1, σ) else some (0, σ)) else (if v3 = 0 then some (1, σ) else (match v1 with
  | none => none
  | some b8 => (match egR σ.2.2.2.1 b8 3 3 with
  | none => none
  | some y9 => (match tw 200 y9 v2 1 ((upd (upd σ.1 5 0) 6 0), σ.2.1, σ.2.2.1, σ.2.2.2.1, σ.2.2.2.2.1, σ.2.2.2.2.2) with
  | none => none
  | some y10 => (if (v3 &&& ((y10.2.1 5) ||| ((y10.2.1 6) ^^^ (-1)))) = 0 then some (0, y10.2) else sp_Tk_settles_8    m (some b8) v2 (v3 &&& ((v3 &&& ((y10.2.1 5) ||| ((y10.2.1 6) ^^^ (-1)))) ^^^ (-1))) (v4 + 1) ((upd (upd y10.2.1 3 ((y10.2.1 3) ||| ((v3 &&& ((y10.2.1 5) ||| ((y10.2.1 6) ^^^ (-1)))) &&& (y10.2.1 5)))) 4 ((y10.2.1 4) ||| ((v3 &&& ((y10.2.1 5) ||| ((y10.2.1 6) ^^^ (-1)))) &&& ((y10.2.1 5) ^^^ (-1))))), y10.2.2.1, y10.2.2.2.1, y10.2.2.2.2.1, y10.2.2.2.2.2.1, y10.2.2.2.2.2.2)))))))
theorem c_sp_Tk_settles_8  {r : Int32 × ck_S} : ∀ (m : Nat) (v1 : Option Nat) (v2 : Int32) (v3 : Int32) (v4 : Int32) (σ : ck_S), sp_Tk_settles_8   m v1 v2 v3 v4 σ = some r → ∀ x5 : Option Value, ck_Go l F (d + 601) m_Tk_settles tk_K a A 8 ([some (.ref a), some (va_rf v1), some (.int v2), some (.int v3), some (.int v4), x5]) [] σ (fun w σ' => w = some (.int r.1) ∧ σ' = r.2) := by
  intro m
  induction m with
  | zero => intro v1 v2 v3 v4 σ hp; cases hp
  | succ m ihm =>
    intro v1 v2 v3 v4 σ hp x5
    unfold sp_Tk_settles_8 at hp
    refine ck_p (L' := [some (.ref a), some (va_rf v1), some (.int v2), some (.int v3), some (.int v4), x5]) (st' := [.int v4]) k_Tk_settles rfl rfl ?_
    refine ck_p (L' := [some (.ref a), some (va_rf v1), some (.int v2), some (.int v3), some (.int v4), x5]) (st' := [.int 26, .int v4]) k_Tk_settles rfl rfl ?_
    refine ck_ic k_Tk_settles rfl rfl rfl (fun h4 => ?_) (fun h4 => ?_)
    · skip
      rw [if_pos (show (26 : Int32) ≤ v4 from h4)] at hp
      refine ck_p (L' := [some (.ref a), some (va_rf v1), some (.int v2), some (.int v3), some (.int v4), x5]) (st' := [.int v3]) k_Tk_settles rfl rfl ?_
      refine ck_if k_Tk_settles rfl rfl rfl (fun h5 => ?_) (fun h5 => ?_)
      · skip
        rw [if_neg (show ¬ (v3 = 0) from h5)] at hp
        refine ck_p (L' := [some (.ref a), some (va_rf v1), some (.int v2), some (.int v3), some (.int v4), x5]) (st' := [.int 0]) k_Tk_settles rfl rfl ?_
        cases hp
        exact ck_ret (v := some (.int _)) k_Tk_settles rfl rfl (Or.inl rfl) rfl ⟨rfl, rfl⟩
      · skip
        rw [if_pos (show v3 = 0 from h5)] at hp
        refine ck_p (L' := [some (.ref a), some (va_rf v1), some (.int v2), some (.int v3), some (.int v4), x5]) (st' := [.int 1]) k_Tk_settles rfl rfl ?_
        refine ck_j k_Tk_settles rfl rfl ?_
        cases hp
        exact ck_ret (v := some (.int _)) k_Tk_settles rfl rfl (Or.inr rfl) rfl ⟨rfl, rfl⟩
    · skip
      rw [if_neg (show ¬ ((26 : Int32) ≤ v4) from h4)] at hp
      refine ck_p (L' := [some (.ref a), some (va_rf v1), some (.int v2), some (.int v3), some (.int v4), x5]) (st' := [.int v3]) k_Tk_settles rfl rfl ?_
      refine ck_if k_Tk_settles rfl rfl rfl (fun h6 => ?_) (fun h6 => ?_)
      · skip
        rw [if_pos (show v3 = 0 from h6)] at hp
        refine ck_p (L' := [some (.ref a), some (va_rf v1), some (.int v2), some (.int v3), some (.int v4), x5]) (st' := [.int v3]) k_Tk_settles rfl rfl ?_
        refine ck_if k_Tk_settles rfl rfl rfl (fun h7 => ?_) (fun h7 => ?_)
        · skip
          exact absurd h6 h7
        · skip
          refine ck_p (L' := [some (.ref a), some (va_rf v1), some (.int v2), some (.int v3), some (.int v4), x5]) (st' := [.int 1]) k_Tk_settles rfl rfl ?_
          refine ck_j k_Tk_settles rfl rfl ?_
          cases hp
          exact ck_ret (v := some (.int _)) k_Tk_settles rfl rfl (Or.inr rfl) rfl ⟨rfl, rfl⟩
      · skip
        rw [if_neg (show ¬ (v3 = 0) from h6)] at hp
        refine ck_p (L' := [some (.ref a), some (va_rf v1), some (.int v2), some (.int v3), some (.int v4), x5]) (st' := [.ref a]) k_Tk_settles rfl rfl ?_
        refine ck_p (L' := [some (.ref a), some (va_rf v1), some (.int v2), some (.int v3), some (.int v4), x5]) (st' := [.int 0, .ref a]) k_Tk_settles rfl rfl ?_
        refine ck_pt k_Tk_settles rfl rfl rfl trivial (Nat.le_of_ble_eq_true rfl) rfl ?_
        refine ck_p (L' := [some (.ref a), some (va_rf v1), some (.int v2), some (.int v3), some (.int v4), x5]) (st' := [.ref a]) k_Tk_settles rfl rfl ?_
        refine ck_p (L' := [some (.ref a), some (va_rf v1), some (.int v2), some (.int v3), some (.int v4), x5]) (st' := [.int 0, .ref a]) k_Tk_settles rfl rfl ?_
        refine ck_pt k_Tk_settles rfl rfl rfl trivial (Nat.le_of_ble_eq_true rfl) rfl ?_
        refine ck_p (L' := [some (.ref a), some (va_rf v1), some (.int v2), some (.int v3), some (.int v4), x5]) (st' := [.ref a]) k_Tk_settles rfl rfl ?_
        refine ck_p (L' := [some (.ref a), some (va_rf v1), some (.int v2), some (.int v3), some (.int v4), x5]) (st' := [va_rf v1, .ref a]) k_Tk_settles rfl (by cases v1 <;> rfl) ?_
        cases v1 with
        | none =>
          try dsimp only at hp
          cases hp
        | some b8 =>
          try dsimp only at hp
          cases hy9 : egR σ.2.2.2.1 b8 3 3 with
          | none =>
            rw [hy9] at hp
            cases hp
          | some y9 =>
            rw [hy9] at hp
            try dsimp only at hp
            refine ck_gE k_Tk_settles rfl rfl rfl (egR_of hy9) ?_
            refine ck_p (L' := [some (.ref a), some (.ref b8), some (.int v2), some (.int v3), some (.int v4), x5]) (st' := [.int v2, va_rf y9, .ref a]) k_Tk_settles rfl rfl ?_
            refine ck_p (L' := [some (.ref a), some (.ref b8), some (.int v2), some (.int v3), some (.int v4), x5]) (st' := [.int 1, .int v2, va_rf y9, .ref a]) k_Tk_settles rfl rfl ?_
            cases hy10 : tw 200 y9 v2 1 ((upd (upd σ.1 5 0) 6 0), σ.2.1, σ.2.2.1, σ.2.2.2.1, σ.2.2.2.2.1, σ.2.2.2.2.2) with
            | none =>
              rw [hy10] at hp
              cases hp
            | some y10 =>
              rw [hy10] at hp
              try dsimp only at hp
              refine ck_ivB (M' := m_Tk_weigh) (As := [va_rf y9, .int v2, .int 1]) k_Tk_settles rfl rfl rfl rfl rfl rfl rfl (Nat.le_of_ble_eq_true rfl) (c_tw 200 _ _ _ _ _ _ (by omega) hy10) (fun hby10 => ?_)
              refine ck_p (L' := [some (.ref a), some (.ref b8), some (.int v2), some (.int v3), some (.int v4), x5]) (st' := []) k_Tk_settles rfl rfl ?_
              refine ck_p (L' := [some (.ref a), some (.ref b8), some (.int v2), some (.int v3), some (.int v4), x5]) (st' := [.int v3]) k_Tk_settles rfl rfl ?_
              refine ck_p (L' := [some (.ref a), some (.ref b8), some (.int v2), some (.int v3), some (.int v4), x5]) (st' := [.ref a, .int v3]) k_Tk_settles rfl rfl ?_
              refine ck_g k_Tk_settles rfl rfl rfl rfl ?_
              refine ck_p (L' := [some (.ref a), some (.ref b8), some (.int v2), some (.int v3), some (.int v4), x5]) (st' := [.ref a, .int (y10.2.1 5), .int v3]) k_Tk_settles rfl rfl ?_
              refine ck_g k_Tk_settles rfl rfl rfl rfl ?_
              refine ck_p (L' := [some (.ref a), some (.ref b8), some (.int v2), some (.int v3), some (.int v4), x5]) (st' := [.int (-1), .int (y10.2.1 6), .int (y10.2.1 5), .int v3]) k_Tk_settles rfl rfl ?_
              refine ck_p (L' := [some (.ref a), some (.ref b8), some (.int v2), some (.int v3), some (.int v4), x5]) (st' := [.int ((y10.2.1 6) ^^^ (-1)), .int (y10.2.1 5), .int v3]) k_Tk_settles rfl rfl ?_
              refine ck_p (L' := [some (.ref a), some (.ref b8), some (.int v2), some (.int v3), some (.int v4), x5]) (st' := [.int ((y10.2.1 5) ||| ((y10.2.1 6) ^^^ (-1))), .int v3]) k_Tk_settles rfl rfl ?_
              refine ck_p (L' := [some (.ref a), some (.ref b8), some (.int v2), some (.int v3), some (.int v4), x5]) (st' := [.int (v3 &&& ((y10.2.1 5) ||| ((y10.2.1 6) ^^^ (-1))))]) k_Tk_settles rfl rfl ?_
              refine ck_p (L' := [some (.ref a), some (.ref b8), some (.int v2), some (.int v3), some (.int v4), some (.int (v3 &&& ((y10.2.1 5) ||| ((y10.2.1 6) ^^^ (-1)))))]) (st' := []) k_Tk_settles rfl rfl ?_
              refine ck_p (L' := [some (.ref a), some (.ref b8), some (.int v2), some (.int v3), some (.int v4), some (.int (v3 &&& ((y10.2.1 5) ||| ((y10.2.1 6) ^^^ (-1)))))]) (st' := [.int (v3 &&& ((y10.2.1 5) ||| ((y10.2.1 6) ^^^ (-1))))]) k_Tk_settles rfl rfl ?_
              refine ck_if k_Tk_settles rfl rfl rfl (fun h11 => ?_) (fun h11 => ?_)
              · skip
                rw [if_neg (show ¬ ((v3 &&& ((y10.2.1 5) ||| ((y10.2.1 6) ^^^ (-1)))) = 0) from h11)] at hp
                refine ck_p (L' := [some (.ref a), some (.ref b8), some (.int v2), some (.int v3), some (.int v4), some (.int (v3 &&& ((y10.2.1 5) ||| ((y10.2.1 6) ^^^ (-1)))))]) (st' := [.ref a]) k_Tk_settles rfl rfl ?_
                refine ck_p (L' := [some (.ref a), some (.ref b8), some (.int v2), some (.int v3), some (.int v4), some (.int (v3 &&& ((y10.2.1 5) ||| ((y10.2.1 6) ^^^ (-1)))))]) (st' := [.ref a, .ref a]) k_Tk_settles rfl rfl ?_
                refine ck_g k_Tk_settles rfl rfl rfl rfl ?_
                refine ck_p (L' := [some (.ref a), some (.ref b8), some (.int v2), some (.int v3), some (.int v4), some (.int (v3 &&& ((y10.2.1 5) ||| ((y10.2.1 6) ^^^ (-1)))))]) (st' := [.int (v3 &&& ((y10.2.1 5) ||| ((y10.2.1 6) ^^^ (-1)))), .int (y10.2.1 3), .ref a]) k_Tk_settles rfl rfl ?_
                refine ck_p (L' := [some (.ref a), some (.ref b8), some (.int v2), some (.int v3), some (.int v4), some (.int (v3 &&& ((y10.2.1 5) ||| ((y10.2.1 6) ^^^ (-1)))))]) (st' := [.ref a, .int (v3 &&& ((y10.2.1 5) ||| ((y10.2.1 6) ^^^ (-1)))), .int (y10.2.1 3), .ref a]) k_Tk_settles rfl rfl ?_
                refine ck_g k_Tk_settles rfl rfl rfl rfl ?_
                refine ck_p (L' := [some (.ref a), some (.ref b8), some (.int v2), some (.int v3), some (.int v4), some (.int (v3 &&& ((y10.2.1 5) ||| ((y10.2.1 6) ^^^ (-1)))))]) (st' := [.int ((v3 &&& ((y10.2.1 5) ||| ((y10.2.1 6) ^^^ (-1)))) &&& (y10.2.1 5)), .int (y10.2.1 3), .ref a]) k_Tk_settles rfl rfl ?_
                refine ck_p (L' := [some (.ref a), some (.ref b8), some (.int v2), some (.int v3), some (.int v4), some (.int (v3 &&& ((y10.2.1 5) ||| ((y10.2.1 6) ^^^ (-1)))))]) (st' := [.int ((y10.2.1 3) ||| ((v3 &&& ((y10.2.1 5) ||| ((y10.2.1 6) ^^^ (-1)))) &&& (y10.2.1 5))), .ref a]) k_Tk_settles rfl rfl ?_
                refine ck_pt k_Tk_settles rfl rfl rfl trivial (Nat.le_of_ble_eq_true rfl) rfl ?_
                refine ck_p (L' := [some (.ref a), some (.ref b8), some (.int v2), some (.int v3), some (.int v4), some (.int (v3 &&& ((y10.2.1 5) ||| ((y10.2.1 6) ^^^ (-1)))))]) (st' := [.ref a]) k_Tk_settles rfl rfl ?_
                refine ck_p (L' := [some (.ref a), some (.ref b8), some (.int v2), some (.int v3), some (.int v4), some (.int (v3 &&& ((y10.2.1 5) ||| ((y10.2.1 6) ^^^ (-1)))))]) (st' := [.ref a, .ref a]) k_Tk_settles rfl rfl ?_
                refine ck_g k_Tk_settles rfl rfl rfl rfl ?_
                refine ck_p (L' := [some (.ref a), some (.ref b8), some (.int v2), some (.int v3), some (.int v4), some (.int (v3 &&& ((y10.2.1 5) ||| ((y10.2.1 6) ^^^ (-1)))))]) (st' := [.int (v3 &&& ((y10.2.1 5) ||| ((y10.2.1 6) ^^^ (-1)))), .int (y10.2.1 4), .ref a]) k_Tk_settles rfl rfl ?_
                refine ck_p (L' := [some (.ref a), some (.ref b8), some (.int v2), some (.int v3), some (.int v4), some (.int (v3 &&& ((y10.2.1 5) ||| ((y10.2.1 6) ^^^ (-1)))))]) (st' := [.ref a, .int (v3 &&& ((y10.2.1 5) ||| ((y10.2.1 6) ^^^ (-1)))), .int (y10.2.1 4), .ref a]) k_Tk_settles rfl rfl ?_
                refine ck_g k_Tk_settles rfl rfl rfl rfl ?_
                refine ck_p (L' := [some (.ref a), some (.ref b8), some (.int v2), some (.int v3), some (.int v4), some (.int (v3 &&& ((y10.2.1 5) ||| ((y10.2.1 6) ^^^ (-1)))))]) (st' := [.int (-1), .int (y10.2.1 5), .int (v3 &&& ((y10.2.1 5) ||| ((y10.2.1 6) ^^^ (-1)))), .int (y10.2.1 4), .ref a]) k_Tk_settles rfl rfl ?_
                refine ck_p (L' := [some (.ref a), some (.ref b8), some (.int v2), some (.int v3), some (.int v4), some (.int (v3 &&& ((y10.2.1 5) ||| ((y10.2.1 6) ^^^ (-1)))))]) (st' := [.int ((y10.2.1 5) ^^^ (-1)), .int (v3 &&& ((y10.2.1 5) ||| ((y10.2.1 6) ^^^ (-1)))), .int (y10.2.1 4), .ref a]) k_Tk_settles rfl rfl ?_
                refine ck_p (L' := [some (.ref a), some (.ref b8), some (.int v2), some (.int v3), some (.int v4), some (.int (v3 &&& ((y10.2.1 5) ||| ((y10.2.1 6) ^^^ (-1)))))]) (st' := [.int ((v3 &&& ((y10.2.1 5) ||| ((y10.2.1 6) ^^^ (-1)))) &&& ((y10.2.1 5) ^^^ (-1))), .int (y10.2.1 4), .ref a]) k_Tk_settles rfl rfl ?_
                refine ck_p (L' := [some (.ref a), some (.ref b8), some (.int v2), some (.int v3), some (.int v4), some (.int (v3 &&& ((y10.2.1 5) ||| ((y10.2.1 6) ^^^ (-1)))))]) (st' := [.int ((y10.2.1 4) ||| ((v3 &&& ((y10.2.1 5) ||| ((y10.2.1 6) ^^^ (-1)))) &&& ((y10.2.1 5) ^^^ (-1)))), .ref a]) k_Tk_settles rfl rfl ?_
                refine ck_pt k_Tk_settles rfl rfl rfl trivial (Nat.le_of_ble_eq_true rfl) rfl ?_
                refine ck_p (L' := [some (.ref a), some (.ref b8), some (.int v2), some (.int v3), some (.int v4), some (.int (v3 &&& ((y10.2.1 5) ||| ((y10.2.1 6) ^^^ (-1)))))]) (st' := [.int v3]) k_Tk_settles rfl rfl ?_
                refine ck_p (L' := [some (.ref a), some (.ref b8), some (.int v2), some (.int v3), some (.int v4), some (.int (v3 &&& ((y10.2.1 5) ||| ((y10.2.1 6) ^^^ (-1)))))]) (st' := [.int (v3 &&& ((y10.2.1 5) ||| ((y10.2.1 6) ^^^ (-1)))), .int v3]) k_Tk_settles rfl rfl ?_
                refine ck_p (L' := [some (.ref a), some (.ref b8), some (.int v2), some (.int v3), some (.int v4), some (.int (v3 &&& ((y10.2.1 5) ||| ((y10.2.1 6) ^^^ (-1)))))]) (st' := [.int (-1), .int (v3 &&& ((y10.2.1 5) ||| ((y10.2.1 6) ^^^ (-1)))), .int v3]) k_Tk_settles rfl rfl ?_
                refine ck_p (L' := [some (.ref a), some (.ref b8), some (.int v2), some (.int v3), some (.int v4), some (.int (v3 &&& ((y10.2.1 5) ||| ((y10.2.1 6) ^^^ (-1)))))]) (st' := [.int ((v3 &&& ((y10.2.1 5) ||| ((y10.2.1 6) ^^^ (-1)))) ^^^ (-1)), .int v3]) k_Tk_settles rfl rfl ?_
                refine ck_p (L' := [some (.ref a), some (.ref b8), some (.int v2), some (.int v3), some (.int v4), some (.int (v3 &&& ((y10.2.1 5) ||| ((y10.2.1 6) ^^^ (-1)))))]) (st' := [.int (v3 &&& ((v3 &&& ((y10.2.1 5) ||| ((y10.2.1 6) ^^^ (-1)))) ^^^ (-1)))]) k_Tk_settles rfl rfl ?_
                refine ck_p (L' := [some (.ref a), some (.ref b8), some (.int v2), some (.int (v3 &&& ((v3 &&& ((y10.2.1 5) ||| ((y10.2.1 6) ^^^ (-1)))) ^^^ (-1)))), some (.int v4), some (.int (v3 &&& ((y10.2.1 5) ||| ((y10.2.1 6) ^^^ (-1)))))]) (st' := []) k_Tk_settles rfl rfl ?_
                refine ck_p (L' := [some (.ref a), some (.ref b8), some (.int v2), some (.int (v3 &&& ((v3 &&& ((y10.2.1 5) ||| ((y10.2.1 6) ^^^ (-1)))) ^^^ (-1)))), some (.int (v4 + 1)), some (.int (v3 &&& ((y10.2.1 5) ||| ((y10.2.1 6) ^^^ (-1)))))]) (st' := []) k_Tk_settles rfl rfl ?_
                refine ck_j k_Tk_settles rfl rfl ?_
                exact ihm _ _ _ _ _ hp _
              · skip
                rw [if_pos (show (v3 &&& ((y10.2.1 5) ||| ((y10.2.1 6) ^^^ (-1)))) = 0 from h11)] at hp
                refine ck_p (L' := [some (.ref a), some (.ref b8), some (.int v2), some (.int v3), some (.int v4), some (.int (v3 &&& ((y10.2.1 5) ||| ((y10.2.1 6) ^^^ (-1)))))]) (st' := [.int 0]) k_Tk_settles rfl rfl ?_
                cases hp
                exact ck_ret (v := some (.int _)) k_Tk_settles rfl rfl (Or.inl rfl) rfl ⟨rfl, rfl⟩
def sp_Tk_settles  (v1 : Option Nat) (v2 : Int32) (σ : ck_S) : Option (Int32 × ck_S) := (match v1 with
  | none => none
  | some b1 => (if eo σ.2.2.2.1 b1 3 = true then (match sp_Prog_outputBits  b1 σ with
  | none => none
  | some y3 => sp_Tk_settles_8   2601 (some b1) v2 y3.1 0 y3.2) else none))
theorem c_sp_Tk_settles  {v1 : Option Nat} {v2 : Int32} {σ : ck_S} {r : Int32 × ck_S} (hp : sp_Tk_settles  v1 v2 σ = some r) : ck_Has l F (d + 601) m_Tk_settles tk_K a A [.ref a, va_rf v1, .int v2] σ (fun w σ' => w = some (.int r.1) ∧ σ' = r.2) := by
  refine ck_meth (k := 3) (L := [some (.ref a), some (va_rf v1), some (.int v2), none, none, none]) pn_Tk (by cases v1 <;> rfl) (by cases v1 <;> exact (Nat.le_of_ble_eq_true rfl)) ?_
  unfold sp_Tk_settles at hp
  refine ck_p (L' := [some (.ref a), some (va_rf v1), some (.int v2), none, none, none]) (st' := [va_rf v1]) k_Tk_settles rfl (by cases v1 <;> rfl) ?_
  cases v1 with
  | none =>
    try dsimp only at hp
    cases hp
  | some b1 =>
    try dsimp only at hp
    by_cases g2 : eo σ.2.2.2.1 b1 3 = true
    · rw [if_pos g2] at hp
      cases hy3 : sp_Prog_outputBits  b1 σ with
      | none =>
        rw [hy3] at hp
        cases hp
      | some y3 =>
        rw [hy3] at hp
        try dsimp only at hp
        refine ck_ivO (M' := m_Prog_outputBits) (As := []) k_Tk_settles rfl rfl rfl rfl rfl g2 rfl rfl (Nat.le_of_ble_eq_true rfl) (c_sp_Prog_outputBits  hy3) (fun hby3 => ?_)
        refine ck_p (L' := [some (.ref a), some (.ref b1), some (.int v2), some (.int y3.1), none, none]) (st' := []) k_Tk_settles rfl rfl ?_
        refine ck_p (L' := [some (.ref a), some (.ref b1), some (.int v2), some (.int y3.1), none, none]) (st' := [.int 0]) k_Tk_settles rfl rfl ?_
        refine ck_p (L' := [some (.ref a), some (.ref b1), some (.int v2), some (.int y3.1), some (.int 0), none]) (st' := []) k_Tk_settles rfl rfl ?_
        exact c_sp_Tk_settles_8   _ _ _ _ _ _ hp _
    · rw [if_neg g2] at hp
      cases hp
def tp_IH (l : Launch) (F : gx_F) (a : Nat) (A : Nat → Nat) (D : Nat) (g : Option Nat → Int32 → ck_S → Option (Int32 × ck_S)) : Prop := ∀ (dd : Nat) (n : Option Nat) (b : Int32) (σ : ck_S) (r : Int32 × ck_S), D ≤ dd → g n b σ = some r → ck_Has l F dd m_Tk_perform tk_K a A [.ref a, va_rf n, .int b] σ (fun w σ' => w = some (.int r.1) ∧ σ' = r.2)
variable {g : Option Nat → Int32 → ck_S → Option (Int32 × ck_S)}
def sp_Tk_performAsk (g : Option Nat → Int32 → ck_S → Option (Int32 × ck_S)) (v1 : Option Nat) (v2 : Int32) (σ : ck_S) : Option (Int32 × ck_S) := (match v1 with
  | none => none
  | some b1 => (match egR σ.2.2.2.1 b1 2 2 with
  | none => none
  | some y2 => (if v2 = 0 then (if eo σ.2.2.2.1 b1 2 = true then (match sp_Node_partThatStands  b1 (σ.1 2) σ with
  | none => none
  | some y14 => (match g y14.1 0 y14.2 with
  | none => none
  | some y15 => some (y15.1, y15.2))) else none) else (match egI σ.2.2.2.1 b1 2 1 with
  | none => none
  | some y4 => (if ((σ.1 3) &&& y4) = 0 then (match y2 with
  | none => (match g none 1 σ with
  | none => none
  | some y8 => some (y8.1, y8.2))
  | some b7 => (match egR σ.2.2.2.1 b7 2 5 with
  | none => none
  | some y9 => (match g y9 1 σ with
  | none => none
  | some y10 => some (y10.1, y10.2)))) else (match g y2 1 σ with
  | none => none
  | some y12 => some (y12.1, y12.2)))))))
theorem c_sp_Tk_performAsk (hg : tp_IH l F a A D g) (hD : D ≤ d) (h6 : 601 ≤ D) {v1 : Option Nat} {v2 : Int32} {σ : ck_S} {r : Int32 × ck_S} (hp : sp_Tk_performAsk g v1 v2 σ = some r) : ck_Has l F (d + 2) m_Tk_performAsk tk_K a A [.ref a, va_rf v1, .int v2] σ (fun w σ' => w = some (.int r.1) ∧ σ' = r.2) := by
  refine ck_meth (k := 2) (L := [some (.ref a), some (va_rf v1), some (.int v2), none, none]) pn_Tk (by cases v1 <;> rfl) (by cases v1 <;> exact (Nat.le_of_ble_eq_true rfl)) ?_
  unfold sp_Tk_performAsk at hp
  refine ck_p (L' := [some (.ref a), some (va_rf v1), some (.int v2), none, none]) (st' := [va_rf v1]) k_Tk_performAsk rfl (by cases v1 <;> rfl) ?_
  cases v1 with
  | none =>
    try dsimp only at hp
    cases hp
  | some b1 =>
    try dsimp only at hp
    cases hy2 : egR σ.2.2.2.1 b1 2 2 with
    | none =>
      rw [hy2] at hp
      cases hp
    | some y2 =>
      rw [hy2] at hp
      try dsimp only at hp
      refine ck_gE k_Tk_performAsk rfl rfl rfl (egR_of hy2) ?_
      refine ck_p (L' := [some (.ref a), some (.ref b1), some (.int v2), some (va_rf y2), none]) (st' := []) k_Tk_performAsk rfl (by cases y2 <;> rfl) ?_
      refine ck_p (L' := [some (.ref a), some (.ref b1), some (.int v2), some (va_rf y2), none]) (st' := [.int v2]) k_Tk_performAsk rfl rfl ?_
      refine ck_if k_Tk_performAsk rfl rfl rfl (fun h3 => ?_) (fun h3 => ?_)
      · skip
        rw [if_neg (show ¬ (v2 = 0) from h3)] at hp
        refine ck_p (L' := [some (.ref a), some (.ref b1), some (.int v2), some (va_rf y2), none]) (st' := [.ref a]) k_Tk_performAsk rfl rfl ?_
        refine ck_g k_Tk_performAsk rfl rfl rfl rfl ?_
        refine ck_p (L' := [some (.ref a), some (.ref b1), some (.int v2), some (va_rf y2), none]) (st' := [.ref b1, .int (σ.1 3)]) k_Tk_performAsk rfl rfl ?_
        cases hy4 : egI σ.2.2.2.1 b1 2 1 with
        | none =>
          rw [hy4] at hp
          cases hp
        | some y4 =>
          rw [hy4] at hp
          try dsimp only at hp
          refine ck_gE k_Tk_performAsk rfl rfl rfl (egI_of hy4) ?_
          refine ck_p (L' := [some (.ref a), some (.ref b1), some (.int v2), some (va_rf y2), none]) (st' := [.int ((σ.1 3) &&& y4)]) k_Tk_performAsk rfl rfl ?_
          refine ck_if k_Tk_performAsk rfl rfl rfl (fun h5 => ?_) (fun h5 => ?_)
          · skip
            rw [if_pos (show ((σ.1 3) &&& y4) = 0 from h5)] at hp
            refine ck_p (L' := [some (.ref a), some (.ref b1), some (.int v2), some (va_rf y2), none]) (st' := [.int 0]) k_Tk_performAsk rfl rfl ?_
            refine ck_p (L' := [some (.ref a), some (.ref b1), some (.int v2), some (va_rf y2), some (.int 0)]) (st' := []) k_Tk_performAsk rfl (by cases y2 <;> rfl) ?_
            refine ck_p (L' := [some (.ref a), some (.ref b1), some (.int v2), some (va_rf y2), some (.int 0)]) (st' := [.ref a]) k_Tk_performAsk rfl rfl ?_
            refine ck_p (L' := [some (.ref a), some (.ref b1), some (.int v2), some (va_rf y2), some (.int 0)]) (st' := [.int 0, .ref a]) k_Tk_performAsk rfl rfl ?_
            refine ck_if k_Tk_performAsk rfl rfl rfl (fun h6 => ?_) (fun h6 => ?_)
            · skip
              exact absurd h6 (by decide)
            · skip
              refine ck_p (L' := [some (.ref a), some (.ref b1), some (.int v2), some (va_rf y2), some (.int 0)]) (st' := [va_rf y2, .ref a]) k_Tk_performAsk rfl (by cases y2 <;> rfl) ?_
              cases y2 with
              | none =>
                try dsimp only at hp
                refine ck_j k_Tk_performAsk rfl rfl ?_
                refine ck_p (L' := [some (.ref a), some (.ref b1), some (.int v2), some (.null), some (.int 0)]) (st' := [.null, .ref a]) k_Tk_performAsk rfl rfl ?_
                refine ck_j k_Tk_performAsk rfl rfl ?_
                refine ck_p (L' := [some (.ref a), some (.ref b1), some (.int v2), some (.null), some (.int 0)]) (st' := [.int 1, .null, .ref a]) k_Tk_performAsk rfl rfl ?_
                cases hy8 : g none 1 σ with
                | none =>
                  rw [hy8] at hp
                  cases hp
                | some y8 =>
                  rw [hy8] at hp
                  try dsimp only at hp
                  refine ck_ivB (M' := m_Tk_perform) (As := [.null, .int 1]) k_Tk_performAsk rfl rfl rfl rfl rfl rfl rfl (Nat.le_of_ble_eq_true rfl) (hg _ _ _ _ _ (by omega) hy8) (fun hby8 => ?_)
                  cases hp
                  exact ck_ret (v := some (.int _)) k_Tk_performAsk rfl rfl trivial rfl ⟨rfl, rfl⟩
              | some b7 =>
                try dsimp only at hp
                refine ck_j k_Tk_performAsk rfl rfl ?_
                refine ck_p (L' := [some (.ref a), some (.ref b1), some (.int v2), some (.ref b7), some (.int 0)]) (st' := [.ref b7, .ref a]) k_Tk_performAsk rfl rfl ?_
                cases hy9 : egR σ.2.2.2.1 b7 2 5 with
                | none =>
                  rw [hy9] at hp
                  cases hp
                | some y9 =>
                  rw [hy9] at hp
                  try dsimp only at hp
                  refine ck_gE k_Tk_performAsk rfl rfl rfl (egR_of hy9) ?_
                  refine ck_p (L' := [some (.ref a), some (.ref b1), some (.int v2), some (.ref b7), some (.int 0)]) (st' := [.int 1, va_rf y9, .ref a]) k_Tk_performAsk rfl rfl ?_
                  cases hy10 : g y9 1 σ with
                  | none =>
                    rw [hy10] at hp
                    cases hp
                  | some y10 =>
                    rw [hy10] at hp
                    try dsimp only at hp
                    refine ck_ivB (M' := m_Tk_perform) (As := [va_rf y9, .int 1]) k_Tk_performAsk rfl rfl rfl rfl rfl rfl rfl (Nat.le_of_ble_eq_true rfl) (hg _ _ _ _ _ (by omega) hy10) (fun hby10 => ?_)
                    cases hp
                    exact ck_ret (v := some (.int _)) k_Tk_performAsk rfl rfl trivial rfl ⟨rfl, rfl⟩
          · skip
            rw [if_neg (show ¬ (((σ.1 3) &&& y4) = 0) from h5)] at hp
            refine ck_p (L' := [some (.ref a), some (.ref b1), some (.int v2), some (va_rf y2), none]) (st' := [.int 1]) k_Tk_performAsk rfl rfl ?_
            refine ck_j k_Tk_performAsk rfl rfl ?_
            refine ck_p (L' := [some (.ref a), some (.ref b1), some (.int v2), some (va_rf y2), some (.int 1)]) (st' := []) k_Tk_performAsk rfl (by cases y2 <;> rfl) ?_
            refine ck_p (L' := [some (.ref a), some (.ref b1), some (.int v2), some (va_rf y2), some (.int 1)]) (st' := [.ref a]) k_Tk_performAsk rfl rfl ?_
            refine ck_p (L' := [some (.ref a), some (.ref b1), some (.int v2), some (va_rf y2), some (.int 1)]) (st' := [.int 1, .ref a]) k_Tk_performAsk rfl rfl ?_
            refine ck_if k_Tk_performAsk rfl rfl rfl (fun h11 => ?_) (fun h11 => ?_)
            · skip
              refine ck_p (L' := [some (.ref a), some (.ref b1), some (.int v2), some (va_rf y2), some (.int 1)]) (st' := [va_rf y2, .ref a]) k_Tk_performAsk rfl (by cases y2 <;> rfl) ?_
              refine ck_j k_Tk_performAsk rfl rfl ?_
              refine ck_p (L' := [some (.ref a), some (.ref b1), some (.int v2), some (va_rf y2), some (.int 1)]) (st' := [.int 1, va_rf y2, .ref a]) k_Tk_performAsk rfl rfl ?_
              cases hy12 : g y2 1 σ with
              | none =>
                rw [hy12] at hp
                cases hp
              | some y12 =>
                rw [hy12] at hp
                try dsimp only at hp
                refine ck_ivB (M' := m_Tk_perform) (As := [va_rf y2, .int 1]) k_Tk_performAsk rfl rfl rfl rfl rfl rfl rfl (Nat.le_of_ble_eq_true rfl) (hg _ _ _ _ _ (by omega) hy12) (fun hby12 => ?_)
                cases hp
                exact ck_ret (v := some (.int _)) k_Tk_performAsk rfl rfl trivial rfl ⟨rfl, rfl⟩
            · skip
              exact absurd h11 (by decide)
      · skip
        rw [if_pos (show v2 = 0 from h3)] at hp
        refine ck_p (L' := [some (.ref a), some (.ref b1), some (.int v2), some (va_rf y2), none]) (st' := [.ref a]) k_Tk_performAsk rfl rfl ?_
        refine ck_p (L' := [some (.ref a), some (.ref b1), some (.int v2), some (va_rf y2), none]) (st' := [.ref b1, .ref a]) k_Tk_performAsk rfl rfl ?_
        refine ck_p (L' := [some (.ref a), some (.ref b1), some (.int v2), some (va_rf y2), none]) (st' := [.ref a, .ref b1, .ref a]) k_Tk_performAsk rfl rfl ?_
        refine ck_g k_Tk_performAsk rfl rfl rfl rfl ?_
        by_cases g13 : eo σ.2.2.2.1 b1 2 = true
        · rw [if_pos g13] at hp
          cases hy14 : sp_Node_partThatStands  b1 (σ.1 2) σ with
          | none =>
            rw [hy14] at hp
            cases hp
          | some y14 =>
            rw [hy14] at hp
            try dsimp only at hp
            refine ck_ivO (M' := m_Node_partThatStands) (As := [.int (σ.1 2)]) k_Tk_performAsk rfl rfl rfl rfl rfl g13 rfl rfl (Nat.le_of_ble_eq_true rfl) (c_sp_Node_partThatStands  hy14) (fun hby14 => ?_)
            refine ck_p (L' := [some (.ref a), some (.ref b1), some (.int v2), some (va_rf y2), none]) (st' := [.int 0, va_rf y14.1, .ref a]) k_Tk_performAsk rfl rfl ?_
            cases hy15 : g y14.1 0 y14.2 with
            | none =>
              rw [hy15] at hp
              cases hp
            | some y15 =>
              rw [hy15] at hp
              try dsimp only at hp
              refine ck_ivB (M' := m_Tk_perform) (As := [va_rf y14.1, .int 0]) k_Tk_performAsk rfl rfl rfl rfl rfl rfl rfl (Nat.le_of_ble_eq_true rfl) (hg _ _ _ _ _ (by omega) hy15) (fun hby15 => ?_)
              cases hp
              exact ck_ret (v := some (.int _)) k_Tk_performAsk rfl rfl trivial rfl ⟨rfl, rfl⟩
        · rw [if_neg g13] at hp
          cases hp
def sp_Tk_performLoop (g : Option Nat → Int32 → ck_S → Option (Int32 × ck_S)) (v1 : Option Nat) (v2 : Int32) (σ : ck_S) : Option (Int32 × ck_S) := (match v1 with
  | none => none
  | some b1 => (match egR σ.2.2.2.1 b1 2 2 with
  | none => none
  | some y2 => (match g y2 v2 σ with
  | none => none
  | some y3 => (if v2 = 0 then (if y3.1 = 0 then (match egR y3.2.2.2.2.1 b1 2 2 with
  | none => none
  | some y6 => (match g y6 1 y3.2 with
  | none => none
  | some y7 => some (y7.1, y7.2))) else some (y3.1, y3.2)) else some (y3.1, y3.2)))))
theorem c_sp_Tk_performLoop (hg : tp_IH l F a A D g) (hD : D ≤ d) (h6 : 601 ≤ D) {v1 : Option Nat} {v2 : Int32} {σ : ck_S} {r : Int32 × ck_S} (hp : sp_Tk_performLoop g v1 v2 σ = some r) : ck_Has l F (d + 1) m_Tk_performLoop tk_K a A [.ref a, va_rf v1, .int v2] σ (fun w σ' => w = some (.int r.1) ∧ σ' = r.2) := by
  refine ck_meth (k := 1) (L := [some (.ref a), some (va_rf v1), some (.int v2), none]) pn_Tk (by cases v1 <;> rfl) (by cases v1 <;> exact (Nat.le_of_ble_eq_true rfl)) ?_
  unfold sp_Tk_performLoop at hp
  refine ck_p (L' := [some (.ref a), some (va_rf v1), some (.int v2), none]) (st' := [.ref a]) k_Tk_performLoop rfl rfl ?_
  refine ck_p (L' := [some (.ref a), some (va_rf v1), some (.int v2), none]) (st' := [va_rf v1, .ref a]) k_Tk_performLoop rfl (by cases v1 <;> rfl) ?_
  cases v1 with
  | none =>
    try dsimp only at hp
    cases hp
  | some b1 =>
    try dsimp only at hp
    cases hy2 : egR σ.2.2.2.1 b1 2 2 with
    | none =>
      rw [hy2] at hp
      cases hp
    | some y2 =>
      rw [hy2] at hp
      try dsimp only at hp
      refine ck_gE k_Tk_performLoop rfl rfl rfl (egR_of hy2) ?_
      refine ck_p (L' := [some (.ref a), some (.ref b1), some (.int v2), none]) (st' := [.int v2, va_rf y2, .ref a]) k_Tk_performLoop rfl rfl ?_
      cases hy3 : g y2 v2 σ with
      | none =>
        rw [hy3] at hp
        cases hp
      | some y3 =>
        rw [hy3] at hp
        try dsimp only at hp
        refine ck_ivB (M' := m_Tk_perform) (As := [va_rf y2, .int v2]) k_Tk_performLoop rfl rfl rfl rfl rfl rfl rfl (Nat.le_of_ble_eq_true rfl) (hg _ _ _ _ _ (by omega) hy3) (fun hby3 => ?_)
        refine ck_p (L' := [some (.ref a), some (.ref b1), some (.int v2), some (.int y3.1)]) (st' := []) k_Tk_performLoop rfl rfl ?_
        refine ck_p (L' := [some (.ref a), some (.ref b1), some (.int v2), some (.int y3.1)]) (st' := [.int v2]) k_Tk_performLoop rfl rfl ?_
        refine ck_if k_Tk_performLoop rfl rfl rfl (fun h4 => ?_) (fun h4 => ?_)
        · skip
          rw [if_neg (show ¬ (v2 = 0) from h4)] at hp
          refine ck_p (L' := [some (.ref a), some (.ref b1), some (.int v2), some (.int y3.1)]) (st' := [.int y3.1]) k_Tk_performLoop rfl rfl ?_
          refine ck_j k_Tk_performLoop rfl rfl ?_
          cases hp
          exact ck_ret (v := some (.int _)) k_Tk_performLoop rfl rfl trivial rfl ⟨rfl, rfl⟩
        · skip
          rw [if_pos (show v2 = 0 from h4)] at hp
          refine ck_p (L' := [some (.ref a), some (.ref b1), some (.int v2), some (.int y3.1)]) (st' := [.int y3.1]) k_Tk_performLoop rfl rfl ?_
          refine ck_if k_Tk_performLoop rfl rfl rfl (fun h5 => ?_) (fun h5 => ?_)
          · skip
            rw [if_pos (show y3.1 = 0 from h5)] at hp
            refine ck_p (L' := [some (.ref a), some (.ref b1), some (.int v2), some (.int y3.1)]) (st' := [.ref a]) k_Tk_performLoop rfl rfl ?_
            refine ck_p (L' := [some (.ref a), some (.ref b1), some (.int v2), some (.int y3.1)]) (st' := [.ref b1, .ref a]) k_Tk_performLoop rfl rfl ?_
            cases hy6 : egR y3.2.2.2.2.1 b1 2 2 with
            | none =>
              rw [hy6] at hp
              cases hp
            | some y6 =>
              rw [hy6] at hp
              try dsimp only at hp
              refine ck_gE k_Tk_performLoop rfl rfl rfl (egR_of hy6) ?_
              refine ck_p (L' := [some (.ref a), some (.ref b1), some (.int v2), some (.int y3.1)]) (st' := [.int 1, va_rf y6, .ref a]) k_Tk_performLoop rfl rfl ?_
              cases hy7 : g y6 1 y3.2 with
              | none =>
                rw [hy7] at hp
                cases hp
              | some y7 =>
                rw [hy7] at hp
                try dsimp only at hp
                refine ck_ivB (M' := m_Tk_perform) (As := [va_rf y6, .int 1]) k_Tk_performLoop rfl rfl rfl rfl rfl rfl rfl (Nat.le_of_ble_eq_true rfl) (hg _ _ _ _ _ (by omega) hy7) (fun hby7 => ?_)
                cases hp
                exact ck_ret (v := some (.int _)) k_Tk_performLoop rfl rfl trivial rfl ⟨rfl, rfl⟩
          · skip
            rw [if_neg (show ¬ (y3.1 = 0) from h5)] at hp
            refine ck_p (L' := [some (.ref a), some (.ref b1), some (.int v2), some (.int y3.1)]) (st' := [.int y3.1]) k_Tk_performLoop rfl rfl ?_
            refine ck_j k_Tk_performLoop rfl rfl ?_
            cases hp
            exact ck_ret (v := some (.int _)) k_Tk_performLoop rfl rfl trivial rfl ⟨rfl, rfl⟩
def sp_Tk_performSuspend (g : Option Nat → Int32 → ck_S → Option (Int32 × ck_S)) (v1 : Option Nat) (v2 : Int32) (σ : ck_S) : Option (Int32 × ck_S) := (if v2 = 0 then (match v1 with
  | none => none
  | some b5 => (match egI σ.2.2.2.1 b5 2 1 with
  | none => none
  | some y6 => (if ((σ.1 3) &&& y6) = 0 then (match egR σ.2.2.2.1 b5 2 2 with
  | none => none
  | some y9 => (match g y9 v2 σ with
  | none => none
  | some y10 => some (y10.1, y10.2))) else (match egI σ.2.2.2.1 b5 2 3 with
  | none => none
  | some y8 => some (1, ((upd σ.1 7 ((σ.1 7) ||| ((σ.1 2) &&& y8))), σ.2.1, σ.2.2.1, σ.2.2.2.1, σ.2.2.2.2.1, σ.2.2.2.2.2)))))) else (match v1 with
  | none => none
  | some b2 => (match egR σ.2.2.2.1 b2 2 2 with
  | none => none
  | some y3 => (match g y3 v2 σ with
  | none => none
  | some y4 => some (y4.1, y4.2)))))
theorem c_sp_Tk_performSuspend (hg : tp_IH l F a A D g) (hD : D ≤ d) (h6 : 601 ≤ D) {v1 : Option Nat} {v2 : Int32} {σ : ck_S} {r : Int32 × ck_S} (hp : sp_Tk_performSuspend g v1 v2 σ = some r) : ck_Has l F (d + 1) m_Tk_performSuspend tk_K a A [.ref a, va_rf v1, .int v2] σ (fun w σ' => w = some (.int r.1) ∧ σ' = r.2) := by
  refine ck_meth (k := 0) (L := [some (.ref a), some (va_rf v1), some (.int v2)]) pn_Tk (by cases v1 <;> rfl) (by cases v1 <;> exact (Nat.le_of_ble_eq_true rfl)) ?_
  unfold sp_Tk_performSuspend at hp
  refine ck_p (L' := [some (.ref a), some (va_rf v1), some (.int v2)]) (st' := [.int v2]) k_Tk_performSuspend rfl rfl ?_
  refine ck_if k_Tk_performSuspend rfl rfl rfl (fun h1 => ?_) (fun h1 => ?_)
  · skip
    rw [if_neg (show ¬ (v2 = 0) from h1)] at hp
    refine ck_p (L' := [some (.ref a), some (va_rf v1), some (.int v2)]) (st' := [.ref a]) k_Tk_performSuspend rfl rfl ?_
    refine ck_p (L' := [some (.ref a), some (va_rf v1), some (.int v2)]) (st' := [va_rf v1, .ref a]) k_Tk_performSuspend rfl (by cases v1 <;> rfl) ?_
    cases v1 with
    | none =>
      try dsimp only at hp
      cases hp
    | some b2 =>
      try dsimp only at hp
      cases hy3 : egR σ.2.2.2.1 b2 2 2 with
      | none =>
        rw [hy3] at hp
        cases hp
      | some y3 =>
        rw [hy3] at hp
        try dsimp only at hp
        refine ck_gE k_Tk_performSuspend rfl rfl rfl (egR_of hy3) ?_
        refine ck_p (L' := [some (.ref a), some (.ref b2), some (.int v2)]) (st' := [.int v2, va_rf y3, .ref a]) k_Tk_performSuspend rfl rfl ?_
        cases hy4 : g y3 v2 σ with
        | none =>
          rw [hy4] at hp
          cases hp
        | some y4 =>
          rw [hy4] at hp
          try dsimp only at hp
          refine ck_ivB (M' := m_Tk_perform) (As := [va_rf y3, .int v2]) k_Tk_performSuspend rfl rfl rfl rfl rfl rfl rfl (Nat.le_of_ble_eq_true rfl) (hg _ _ _ _ _ (by omega) hy4) (fun hby4 => ?_)
          cases hp
          exact ck_ret (v := some (.int _)) k_Tk_performSuspend rfl rfl trivial rfl ⟨rfl, rfl⟩
  · skip
    rw [if_pos (show v2 = 0 from h1)] at hp
    refine ck_p (L' := [some (.ref a), some (va_rf v1), some (.int v2)]) (st' := [.ref a]) k_Tk_performSuspend rfl rfl ?_
    refine ck_g k_Tk_performSuspend rfl rfl rfl rfl ?_
    refine ck_p (L' := [some (.ref a), some (va_rf v1), some (.int v2)]) (st' := [va_rf v1, .int (σ.1 3)]) k_Tk_performSuspend rfl (by cases v1 <;> rfl) ?_
    cases v1 with
    | none =>
      try dsimp only at hp
      cases hp
    | some b5 =>
      try dsimp only at hp
      cases hy6 : egI σ.2.2.2.1 b5 2 1 with
      | none =>
        rw [hy6] at hp
        cases hp
      | some y6 =>
        rw [hy6] at hp
        try dsimp only at hp
        refine ck_gE k_Tk_performSuspend rfl rfl rfl (egI_of hy6) ?_
        refine ck_p (L' := [some (.ref a), some (.ref b5), some (.int v2)]) (st' := [.int ((σ.1 3) &&& y6)]) k_Tk_performSuspend rfl rfl ?_
        refine ck_if k_Tk_performSuspend rfl rfl rfl (fun h7 => ?_) (fun h7 => ?_)
        · skip
          rw [if_neg (show ¬ (((σ.1 3) &&& y6) = 0) from h7)] at hp
          refine ck_p (L' := [some (.ref a), some (.ref b5), some (.int v2)]) (st' := [.ref a]) k_Tk_performSuspend rfl rfl ?_
          refine ck_p (L' := [some (.ref a), some (.ref b5), some (.int v2)]) (st' := [.ref a, .ref a]) k_Tk_performSuspend rfl rfl ?_
          refine ck_g k_Tk_performSuspend rfl rfl rfl rfl ?_
          refine ck_p (L' := [some (.ref a), some (.ref b5), some (.int v2)]) (st' := [.ref a, .int (σ.1 7), .ref a]) k_Tk_performSuspend rfl rfl ?_
          refine ck_g k_Tk_performSuspend rfl rfl rfl rfl ?_
          refine ck_p (L' := [some (.ref a), some (.ref b5), some (.int v2)]) (st' := [.ref b5, .int (σ.1 2), .int (σ.1 7), .ref a]) k_Tk_performSuspend rfl rfl ?_
          cases hy8 : egI σ.2.2.2.1 b5 2 3 with
          | none =>
            rw [hy8] at hp
            cases hp
          | some y8 =>
            rw [hy8] at hp
            try dsimp only at hp
            refine ck_gE k_Tk_performSuspend rfl rfl rfl (egI_of hy8) ?_
            refine ck_p (L' := [some (.ref a), some (.ref b5), some (.int v2)]) (st' := [.int ((σ.1 2) &&& y8), .int (σ.1 7), .ref a]) k_Tk_performSuspend rfl rfl ?_
            refine ck_p (L' := [some (.ref a), some (.ref b5), some (.int v2)]) (st' := [.int ((σ.1 7) ||| ((σ.1 2) &&& y8)), .ref a]) k_Tk_performSuspend rfl rfl ?_
            refine ck_pt k_Tk_performSuspend rfl rfl rfl trivial (Nat.le_of_ble_eq_true rfl) rfl ?_
            refine ck_p (L' := [some (.ref a), some (.ref b5), some (.int v2)]) (st' := [.int 1]) k_Tk_performSuspend rfl rfl ?_
            cases hp
            exact ck_ret (v := some (.int _)) k_Tk_performSuspend rfl rfl trivial rfl ⟨rfl, rfl⟩
        · skip
          rw [if_pos (show ((σ.1 3) &&& y6) = 0 from h7)] at hp
          refine ck_p (L' := [some (.ref a), some (.ref b5), some (.int v2)]) (st' := [.ref a]) k_Tk_performSuspend rfl rfl ?_
          refine ck_p (L' := [some (.ref a), some (.ref b5), some (.int v2)]) (st' := [.ref b5, .ref a]) k_Tk_performSuspend rfl rfl ?_
          cases hy9 : egR σ.2.2.2.1 b5 2 2 with
          | none =>
            rw [hy9] at hp
            cases hp
          | some y9 =>
            rw [hy9] at hp
            try dsimp only at hp
            refine ck_gE k_Tk_performSuspend rfl rfl rfl (egR_of hy9) ?_
            refine ck_p (L' := [some (.ref a), some (.ref b5), some (.int v2)]) (st' := [.int v2, va_rf y9, .ref a]) k_Tk_performSuspend rfl rfl ?_
            cases hy10 : g y9 v2 σ with
            | none =>
              rw [hy10] at hp
              cases hp
            | some y10 =>
              rw [hy10] at hp
              try dsimp only at hp
              refine ck_ivB (M' := m_Tk_perform) (As := [va_rf y9, .int v2]) k_Tk_performSuspend rfl rfl rfl rfl rfl rfl rfl (Nat.le_of_ble_eq_true rfl) (hg _ _ _ _ _ (by omega) hy10) (fun hby10 => ?_)
              cases hp
              exact ck_ret (v := some (.int _)) k_Tk_performSuspend rfl rfl trivial rfl ⟨rfl, rfl⟩
def sp_Tk_performTrap (g : Option Nat → Int32 → ck_S → Option (Int32 × ck_S)) (v1 : Option Nat) (v2 : Int32) (σ : ck_S) : Option (Int32 × ck_S) := (match v1 with
  | none => none
  | some b1 => (match egR σ.2.2.2.1 b1 2 2 with
  | none => none
  | some y2 => (match g y2 v2 σ with
  | none => none
  | some y3 => (if (2 : Int32) ≤ y3.1 then (if y3.1 ≤ 2 then (match egI y3.2.2.2.2.1 b1 2 3 with
  | none => none
  | some y6 => some (0, ((upd y3.2.1 7 ((y3.2.1 7) &&& (y6 ^^^ (-1)))), y3.2.2.1, y3.2.2.2.1, y3.2.2.2.2.1, y3.2.2.2.2.2.1, y3.2.2.2.2.2.2))) else some ((y3.1 - 1), y3.2)) else some (y3.1, y3.2)))))
theorem c_sp_Tk_performTrap (hg : tp_IH l F a A D g) (hD : D ≤ d) (h6 : 601 ≤ D) {v1 : Option Nat} {v2 : Int32} {σ : ck_S} {r : Int32 × ck_S} (hp : sp_Tk_performTrap g v1 v2 σ = some r) : ck_Has l F (d + 1) m_Tk_performTrap tk_K a A [.ref a, va_rf v1, .int v2] σ (fun w σ' => w = some (.int r.1) ∧ σ' = r.2) := by
  refine ck_meth (k := 1) (L := [some (.ref a), some (va_rf v1), some (.int v2), none]) pn_Tk (by cases v1 <;> rfl) (by cases v1 <;> exact (Nat.le_of_ble_eq_true rfl)) ?_
  unfold sp_Tk_performTrap at hp
  refine ck_p (L' := [some (.ref a), some (va_rf v1), some (.int v2), none]) (st' := [.ref a]) k_Tk_performTrap rfl rfl ?_
  refine ck_p (L' := [some (.ref a), some (va_rf v1), some (.int v2), none]) (st' := [va_rf v1, .ref a]) k_Tk_performTrap rfl (by cases v1 <;> rfl) ?_
  cases v1 with
  | none =>
    try dsimp only at hp
    cases hp
  | some b1 =>
    try dsimp only at hp
    cases hy2 : egR σ.2.2.2.1 b1 2 2 with
    | none =>
      rw [hy2] at hp
      cases hp
    | some y2 =>
      rw [hy2] at hp
      try dsimp only at hp
      refine ck_gE k_Tk_performTrap rfl rfl rfl (egR_of hy2) ?_
      refine ck_p (L' := [some (.ref a), some (.ref b1), some (.int v2), none]) (st' := [.int v2, va_rf y2, .ref a]) k_Tk_performTrap rfl rfl ?_
      cases hy3 : g y2 v2 σ with
      | none =>
        rw [hy3] at hp
        cases hp
      | some y3 =>
        rw [hy3] at hp
        try dsimp only at hp
        refine ck_ivB (M' := m_Tk_perform) (As := [va_rf y2, .int v2]) k_Tk_performTrap rfl rfl rfl rfl rfl rfl rfl (Nat.le_of_ble_eq_true rfl) (hg _ _ _ _ _ (by omega) hy3) (fun hby3 => ?_)
        refine ck_p (L' := [some (.ref a), some (.ref b1), some (.int v2), some (.int y3.1)]) (st' := []) k_Tk_performTrap rfl rfl ?_
        refine ck_p (L' := [some (.ref a), some (.ref b1), some (.int v2), some (.int y3.1)]) (st' := [.int y3.1]) k_Tk_performTrap rfl rfl ?_
        refine ck_p (L' := [some (.ref a), some (.ref b1), some (.int v2), some (.int y3.1)]) (st' := [.int 2, .int y3.1]) k_Tk_performTrap rfl rfl ?_
        refine ck_ic k_Tk_performTrap rfl rfl rfl (fun h4 => ?_) (fun h4 => ?_)
        · skip
          rw [if_pos (show (2 : Int32) ≤ y3.1 from h4)] at hp
          refine ck_p (L' := [some (.ref a), some (.ref b1), some (.int v2), some (.int y3.1)]) (st' := [.int y3.1]) k_Tk_performTrap rfl rfl ?_
          refine ck_p (L' := [some (.ref a), some (.ref b1), some (.int v2), some (.int y3.1)]) (st' := [.int 2, .int y3.1]) k_Tk_performTrap rfl rfl ?_
          refine ck_ic k_Tk_performTrap rfl rfl rfl (fun h5 => ?_) (fun h5 => ?_)
          · skip
            rw [if_pos (show y3.1 ≤ 2 from h5)] at hp
            refine ck_p (L' := [some (.ref a), some (.ref b1), some (.int v2), some (.int y3.1)]) (st' := [.ref a]) k_Tk_performTrap rfl rfl ?_
            refine ck_p (L' := [some (.ref a), some (.ref b1), some (.int v2), some (.int y3.1)]) (st' := [.ref a, .ref a]) k_Tk_performTrap rfl rfl ?_
            refine ck_g k_Tk_performTrap rfl rfl rfl rfl ?_
            refine ck_p (L' := [some (.ref a), some (.ref b1), some (.int v2), some (.int y3.1)]) (st' := [.ref b1, .int (y3.2.1 7), .ref a]) k_Tk_performTrap rfl rfl ?_
            cases hy6 : egI y3.2.2.2.2.1 b1 2 3 with
            | none =>
              rw [hy6] at hp
              cases hp
            | some y6 =>
              rw [hy6] at hp
              try dsimp only at hp
              refine ck_gE k_Tk_performTrap rfl rfl rfl (egI_of hy6) ?_
              refine ck_p (L' := [some (.ref a), some (.ref b1), some (.int v2), some (.int y3.1)]) (st' := [.int (-1), .int y6, .int (y3.2.1 7), .ref a]) k_Tk_performTrap rfl rfl ?_
              refine ck_p (L' := [some (.ref a), some (.ref b1), some (.int v2), some (.int y3.1)]) (st' := [.int (y6 ^^^ (-1)), .int (y3.2.1 7), .ref a]) k_Tk_performTrap rfl rfl ?_
              refine ck_p (L' := [some (.ref a), some (.ref b1), some (.int v2), some (.int y3.1)]) (st' := [.int ((y3.2.1 7) &&& (y6 ^^^ (-1))), .ref a]) k_Tk_performTrap rfl rfl ?_
              refine ck_pt k_Tk_performTrap rfl rfl rfl trivial (Nat.le_of_ble_eq_true rfl) rfl ?_
              refine ck_p (L' := [some (.ref a), some (.ref b1), some (.int v2), some (.int y3.1)]) (st' := [.int 0]) k_Tk_performTrap rfl rfl ?_
              cases hp
              exact ck_ret (v := some (.int _)) k_Tk_performTrap rfl rfl trivial rfl ⟨rfl, rfl⟩
          · skip
            rw [if_neg (show ¬ (y3.1 ≤ 2) from h5)] at hp
            refine ck_p (L' := [some (.ref a), some (.ref b1), some (.int v2), some (.int y3.1)]) (st' := [.int y3.1]) k_Tk_performTrap rfl rfl ?_
            refine ck_p (L' := [some (.ref a), some (.ref b1), some (.int v2), some (.int y3.1)]) (st' := [.int 1, .int y3.1]) k_Tk_performTrap rfl rfl ?_
            refine ck_p (L' := [some (.ref a), some (.ref b1), some (.int v2), some (.int y3.1)]) (st' := [.int (y3.1 - 1)]) k_Tk_performTrap rfl rfl ?_
            cases hp
            exact ck_ret (v := some (.int _)) k_Tk_performTrap rfl rfl trivial rfl ⟨rfl, rfl⟩
        · skip
          rw [if_neg (show ¬ ((2 : Int32) ≤ y3.1) from h4)] at hp
          refine ck_p (L' := [some (.ref a), some (.ref b1), some (.int v2), some (.int y3.1)]) (st' := [.int y3.1]) k_Tk_performTrap rfl rfl ?_
          cases hp
          exact ck_ret (v := some (.int _)) k_Tk_performTrap rfl rfl trivial rfl ⟨rfl, rfl⟩
def sp_Tk_performLocal (g : Option Nat → Int32 → ck_S → Option (Int32 × ck_S)) (v1 : Option Nat) (v2 : Int32) (σ : ck_S) : Option (Int32 × ck_S) := (match v1 with
  | none => none
  | some b1 => (match egR σ.2.2.2.1 b1 2 2 with
  | none => none
  | some y2 => (match sp_Tk_weighAlone (tw 200) y2 v2 1 σ with
  | none => none
  | some y3 => (match egI y3.2.2.2.2.1 b1 2 1 with
  | none => none
  | some y4 => (match sp_Tk_learns  y4 y3.2 with
  | none => none
  | some y5 => (if y5.1 = 0 then some (0, ((upd y5.2.1 8 1), y5.2.2.1, y5.2.2.2.1, y5.2.2.2.2.1, y5.2.2.2.2.2.1, y5.2.2.2.2.2.2)) else (match egR y5.2.2.2.2.1 b1 2 2 with
  | none => none
  | some y7 => (match g y7 v2 y5.2 with
  | none => none
  | some y8 => (match egI y8.2.2.2.2.1 b1 2 1 with
  | none => none
  | some y9 => (match sp_Tk_forget  y9 y8.2 with
  | none => none
  | some y10 => some (y8.1, y10)))))))))))
theorem c_sp_Tk_performLocal (hg : tp_IH l F a A D g) (hD : D ≤ d) (h6 : 601 ≤ D) {v1 : Option Nat} {v2 : Int32} {σ : ck_S} {r : Int32 × ck_S} (hp : sp_Tk_performLocal g v1 v2 σ = some r) : ck_Has l F (d + 1) m_Tk_performLocal tk_K a A [.ref a, va_rf v1, .int v2] σ (fun w σ' => w = some (.int r.1) ∧ σ' = r.2) := by
  refine ck_meth (k := 1) (L := [some (.ref a), some (va_rf v1), some (.int v2), none]) pn_Tk (by cases v1 <;> rfl) (by cases v1 <;> exact (Nat.le_of_ble_eq_true rfl)) ?_
  unfold sp_Tk_performLocal at hp
  refine ck_p (L' := [some (.ref a), some (va_rf v1), some (.int v2), none]) (st' := [.ref a]) k_Tk_performLocal rfl rfl ?_
  refine ck_p (L' := [some (.ref a), some (va_rf v1), some (.int v2), none]) (st' := [va_rf v1, .ref a]) k_Tk_performLocal rfl (by cases v1 <;> rfl) ?_
  cases v1 with
  | none =>
    try dsimp only at hp
    cases hp
  | some b1 =>
    try dsimp only at hp
    cases hy2 : egR σ.2.2.2.1 b1 2 2 with
    | none =>
      rw [hy2] at hp
      cases hp
    | some y2 =>
      rw [hy2] at hp
      try dsimp only at hp
      refine ck_gE k_Tk_performLocal rfl rfl rfl (egR_of hy2) ?_
      refine ck_p (L' := [some (.ref a), some (.ref b1), some (.int v2), none]) (st' := [.int v2, va_rf y2, .ref a]) k_Tk_performLocal rfl rfl ?_
      refine ck_p (L' := [some (.ref a), some (.ref b1), some (.int v2), none]) (st' := [.int 1, .int v2, va_rf y2, .ref a]) k_Tk_performLocal rfl rfl ?_
      cases hy3 : sp_Tk_weighAlone (tw 200) y2 v2 1 σ with
      | none =>
        rw [hy3] at hp
        cases hp
      | some y3 =>
        rw [hy3] at hp
        try dsimp only at hp
        refine ck_ivB (M' := m_Tk_weighAlone) (As := [va_rf y2, .int v2, .int 1]) k_Tk_performLocal rfl rfl rfl rfl rfl rfl rfl (Nat.le_of_ble_eq_true rfl) (c_wa _ (by omega) hy3) (fun hby3 => ?_)
        refine ck_p (L' := [some (.ref a), some (.ref b1), some (.int v2), none]) (st' := []) k_Tk_performLocal rfl rfl ?_
        refine ck_p (L' := [some (.ref a), some (.ref b1), some (.int v2), none]) (st' := [.ref a]) k_Tk_performLocal rfl rfl ?_
        refine ck_p (L' := [some (.ref a), some (.ref b1), some (.int v2), none]) (st' := [.ref b1, .ref a]) k_Tk_performLocal rfl rfl ?_
        cases hy4 : egI y3.2.2.2.2.1 b1 2 1 with
        | none =>
          rw [hy4] at hp
          cases hp
        | some y4 =>
          rw [hy4] at hp
          try dsimp only at hp
          refine ck_gE k_Tk_performLocal rfl rfl rfl (egI_of hy4) ?_
          cases hy5 : sp_Tk_learns  y4 y3.2 with
          | none =>
            rw [hy5] at hp
            cases hp
          | some y5 =>
            rw [hy5] at hp
            try dsimp only at hp
            refine ck_ivB (M' := m_Tk_learns) (As := [.int y4]) k_Tk_performLocal rfl rfl rfl rfl rfl rfl rfl (Nat.le_of_ble_eq_true rfl) (c_sp_Tk_learns  hy5) (fun hby5 => ?_)
            refine ck_if k_Tk_performLocal rfl rfl rfl (fun h6 => ?_) (fun h6 => ?_)
            · skip
              rw [if_neg (show ¬ (y5.1 = 0) from h6)] at hp
              refine ck_p (L' := [some (.ref a), some (.ref b1), some (.int v2), none]) (st' := [.ref a]) k_Tk_performLocal rfl rfl ?_
              refine ck_p (L' := [some (.ref a), some (.ref b1), some (.int v2), none]) (st' := [.ref b1, .ref a]) k_Tk_performLocal rfl rfl ?_
              cases hy7 : egR y5.2.2.2.2.1 b1 2 2 with
              | none =>
                rw [hy7] at hp
                cases hp
              | some y7 =>
                rw [hy7] at hp
                try dsimp only at hp
                refine ck_gE k_Tk_performLocal rfl rfl rfl (egR_of hy7) ?_
                refine ck_p (L' := [some (.ref a), some (.ref b1), some (.int v2), none]) (st' := [.int v2, va_rf y7, .ref a]) k_Tk_performLocal rfl rfl ?_
                cases hy8 : g y7 v2 y5.2 with
                | none =>
                  rw [hy8] at hp
                  cases hp
                | some y8 =>
                  rw [hy8] at hp
                  try dsimp only at hp
                  refine ck_ivB (M' := m_Tk_perform) (As := [va_rf y7, .int v2]) k_Tk_performLocal rfl rfl rfl rfl rfl rfl rfl (Nat.le_of_ble_eq_true rfl) (hg _ _ _ _ _ (by omega) hy8) (fun hby8 => ?_)
                  refine ck_p (L' := [some (.ref a), some (.ref b1), some (.int v2), some (.int y8.1)]) (st' := []) k_Tk_performLocal rfl rfl ?_
                  refine ck_p (L' := [some (.ref a), some (.ref b1), some (.int v2), some (.int y8.1)]) (st' := [.ref a]) k_Tk_performLocal rfl rfl ?_
                  refine ck_p (L' := [some (.ref a), some (.ref b1), some (.int v2), some (.int y8.1)]) (st' := [.ref b1, .ref a]) k_Tk_performLocal rfl rfl ?_
                  cases hy9 : egI y8.2.2.2.2.1 b1 2 1 with
                  | none =>
                    rw [hy9] at hp
                    cases hp
                  | some y9 =>
                    rw [hy9] at hp
                    try dsimp only at hp
                    refine ck_gE k_Tk_performLocal rfl rfl rfl (egI_of hy9) ?_
                    cases hy10 : sp_Tk_forget  y9 y8.2 with
                    | none =>
                      rw [hy10] at hp
                      cases hp
                    | some y10 =>
                      rw [hy10] at hp
                      try dsimp only at hp
                      refine ck_ivV (M' := m_Tk_forget) (As := [.int y9]) k_Tk_performLocal rfl rfl rfl rfl rfl rfl rfl (Nat.le_of_ble_eq_true rfl) (c_sp_Tk_forget  hy10) ?_
                      refine ck_p (L' := [some (.ref a), some (.ref b1), some (.int v2), some (.int y8.1)]) (st' := [.int y8.1]) k_Tk_performLocal rfl rfl ?_
                      cases hp
                      exact ck_ret (v := some (.int _)) k_Tk_performLocal rfl rfl trivial rfl ⟨rfl, rfl⟩
            · skip
              rw [if_pos (show y5.1 = 0 from h6)] at hp
              refine ck_p (L' := [some (.ref a), some (.ref b1), some (.int v2), none]) (st' := [.ref a]) k_Tk_performLocal rfl rfl ?_
              refine ck_p (L' := [some (.ref a), some (.ref b1), some (.int v2), none]) (st' := [.int 1, .ref a]) k_Tk_performLocal rfl rfl ?_
              refine ck_pt k_Tk_performLocal rfl rfl rfl (Or.inr rfl) (Nat.le_of_ble_eq_true rfl) rfl ?_
              refine ck_p (L' := [some (.ref a), some (.ref b1), some (.int v2), none]) (st' := [.int 0]) k_Tk_performLocal rfl rfl ?_
              cases hp
              exact ck_ret (v := some (.int _)) k_Tk_performLocal rfl rfl trivial rfl ⟨rfl, rfl⟩
def sp_Tk_performRow_42 (g : Option Nat → Int32 → ck_S → Option (Int32 × ck_S))  : Nat → Option Nat → Int32 → Option Nat → Int32 → Option Nat → ck_S → Option (Int32 × ck_S)
  | 0, _, _, _, _, _, _ => none
  | m + 1, v1, v2, v3, v4, v5, σ => (match v5 with
  | none => some (v4, σ)
  | some b7 => (if v4 = 0 then (match g (some b7) 1 σ with
  | none => none
  | some y9 => (match egR y9.2.2.2.2.1 b7 2 5 with
  | none => none
  | some y10 => sp_Tk_performRow_42 g   m v1 v2 v3 y9.1 y10 y9.2)) else some (v4, σ)))
theorem c_sp_Tk_performRow_42 (hg : tp_IH l F a A D g) (hD : D ≤ d) (h6 : 601 ≤ D) {r : Int32 × ck_S} : ∀ (m : Nat) (v1 : Option Nat) (v2 : Int32) (v3 : Option Nat) (v4 : Int32) (v5 : Option Nat) (σ : ck_S), sp_Tk_performRow_42 g  m v1 v2 v3 v4 v5 σ = some r → ck_Go l F (d + 2) m_Tk_performRow tk_K a A 42 ([some (.ref a), some (va_rf v1), some (.int v2), some (va_rf v3), some (.int v4), some (va_rf v5)]) [] σ (fun w σ' => w = some (.int r.1) ∧ σ' = r.2) := by
  intro m
  induction m with
  | zero => intro v1 v2 v3 v4 v5 σ hp; cases hp
  | succ m ihm =>
    intro v1 v2 v3 v4 v5 σ hp
    unfold sp_Tk_performRow_42 at hp
    refine ck_p (L' := [some (.ref a), some (va_rf v1), some (.int v2), some (va_rf v3), some (.int v4), some (va_rf v5)]) (st' := [va_rf v5]) k_Tk_performRow rfl (by cases v5 <;> rfl) ?_
    cases v5 with
    | none =>
      try dsimp only at hp
      refine ck_j k_Tk_performRow rfl rfl ?_
      refine ck_p (L' := [some (.ref a), some (va_rf v1), some (.int v2), some (va_rf v3), some (.int v4), some (.null)]) (st' := [.int v4]) k_Tk_performRow rfl rfl ?_
      cases hp
      exact ck_ret (v := some (.int _)) k_Tk_performRow rfl rfl trivial rfl ⟨rfl, rfl⟩
    | some b7 =>
      try dsimp only at hp
      refine ck_j k_Tk_performRow rfl rfl ?_
      refine ck_p (L' := [some (.ref a), some (va_rf v1), some (.int v2), some (va_rf v3), some (.int v4), some (.ref b7)]) (st' := [.int v4]) k_Tk_performRow rfl rfl ?_
      refine ck_if k_Tk_performRow rfl rfl rfl (fun h8 => ?_) (fun h8 => ?_)
      · skip
        rw [if_neg (show ¬ (v4 = 0) from h8)] at hp
        refine ck_p (L' := [some (.ref a), some (va_rf v1), some (.int v2), some (va_rf v3), some (.int v4), some (.ref b7)]) (st' := [.int v4]) k_Tk_performRow rfl rfl ?_
        cases hp
        exact ck_ret (v := some (.int _)) k_Tk_performRow rfl rfl trivial rfl ⟨rfl, rfl⟩
      · skip
        rw [if_pos (show v4 = 0 from h8)] at hp
        refine ck_p (L' := [some (.ref a), some (va_rf v1), some (.int v2), some (va_rf v3), some (.int v4), some (.ref b7)]) (st' := [.ref a]) k_Tk_performRow rfl rfl ?_
        refine ck_p (L' := [some (.ref a), some (va_rf v1), some (.int v2), some (va_rf v3), some (.int v4), some (.ref b7)]) (st' := [.ref b7, .ref a]) k_Tk_performRow rfl rfl ?_
        refine ck_p (L' := [some (.ref a), some (va_rf v1), some (.int v2), some (va_rf v3), some (.int v4), some (.ref b7)]) (st' := [.int 1, .ref b7, .ref a]) k_Tk_performRow rfl rfl ?_
        cases hy9 : g (some b7) 1 σ with
        | none =>
          rw [hy9] at hp
          cases hp
        | some y9 =>
          rw [hy9] at hp
          try dsimp only at hp
          refine ck_ivB (M' := m_Tk_perform) (As := [.ref b7, .int 1]) k_Tk_performRow rfl rfl rfl rfl rfl rfl rfl (Nat.le_of_ble_eq_true rfl) (hg _ _ _ _ _ (by omega) hy9) (fun hby9 => ?_)
          refine ck_p (L' := [some (.ref a), some (va_rf v1), some (.int v2), some (va_rf v3), some (.int y9.1), some (.ref b7)]) (st' := []) k_Tk_performRow rfl (by cases v3 <;> rfl) ?_
          refine ck_p (L' := [some (.ref a), some (va_rf v1), some (.int v2), some (va_rf v3), some (.int y9.1), some (.ref b7)]) (st' := [.ref b7]) k_Tk_performRow rfl rfl ?_
          cases hy10 : egR y9.2.2.2.2.1 b7 2 5 with
          | none =>
            rw [hy10] at hp
            cases hp
          | some y10 =>
            rw [hy10] at hp
            try dsimp only at hp
            refine ck_gE k_Tk_performRow rfl rfl rfl (egR_of hy10) ?_
            refine ck_p (L' := [some (.ref a), some (va_rf v1), some (.int v2), some (va_rf v3), some (.int y9.1), some (va_rf y10)]) (st' := []) k_Tk_performRow rfl (by cases y10 <;> rfl) ?_
            refine ck_j k_Tk_performRow rfl rfl ?_
            exact ihm _ _ _ _ _ _ hp
def sp_Tk_performRow (g : Option Nat → Int32 → ck_S → Option (Int32 × ck_S)) (v1 : Option Nat) (v2 : Int32) (σ : ck_S) : Option (Int32 × ck_S) := (if v2 = 0 then (match v1 with
  | none => none
  | some b2 => (if eo σ.2.2.2.1 b2 2 = true then (match sp_Node_partThatStands  b2 (σ.1 2) σ with
  | none => none
  | some y4 => (match g y4.1 v2 y4.2 with
  | none => none
  | some y5 => (match y4.1 with
  | none => sp_Tk_performRow_42 g  2601 (some b2) v2 none y5.1 none y5.2
  | some b6 => (match egR y5.2.2.2.2.1 b6 2 5 with
  | none => none
  | some y11 => sp_Tk_performRow_42 g  2601 (some b2) v2 (some b6) y5.1 y11 y5.2)))) else none)) else (match v1 with
  | none => none
  | some b12 => (match egR σ.2.2.2.1 b12 2 2 with
  | none => none
  | some y13 => (match g y13 v2 σ with
  | none => none
  | some y14 => (match y13 with
  | none => sp_Tk_performRow_42 g  2601 (some b12) v2 none y14.1 none y14.2
  | some b15 => (match egR y14.2.2.2.2.1 b15 2 5 with
  | none => none
  | some y16 => sp_Tk_performRow_42 g  2601 (some b12) v2 (some b15) y14.1 y16 y14.2))))))
theorem c_sp_Tk_performRow (hg : tp_IH l F a A D g) (hD : D ≤ d) (h6 : 601 ≤ D) {v1 : Option Nat} {v2 : Int32} {σ : ck_S} {r : Int32 × ck_S} (hp : sp_Tk_performRow g v1 v2 σ = some r) : ck_Has l F (d + 2) m_Tk_performRow tk_K a A [.ref a, va_rf v1, .int v2] σ (fun w σ' => w = some (.int r.1) ∧ σ' = r.2) := by
  refine ck_meth (k := 3) (L := [some (.ref a), some (va_rf v1), some (.int v2), none, none, none]) pn_Tk (by cases v1 <;> rfl) (by cases v1 <;> exact (Nat.le_of_ble_eq_true rfl)) ?_
  unfold sp_Tk_performRow at hp
  refine ck_p (L' := [some (.ref a), some (va_rf v1), some (.int v2), none, none, none]) (st' := [.int v2]) k_Tk_performRow rfl rfl ?_
  refine ck_if k_Tk_performRow rfl rfl rfl (fun h1 => ?_) (fun h1 => ?_)
  · skip
    rw [if_pos (show v2 = 0 from h1)] at hp
    refine ck_p (L' := [some (.ref a), some (va_rf v1), some (.int v2), none, none, none]) (st' := [va_rf v1]) k_Tk_performRow rfl (by cases v1 <;> rfl) ?_
    refine ck_p (L' := [some (.ref a), some (va_rf v1), some (.int v2), none, none, none]) (st' := [.ref a, va_rf v1]) k_Tk_performRow rfl rfl ?_
    refine ck_g k_Tk_performRow rfl rfl rfl rfl ?_
    cases v1 with
    | none =>
      try dsimp only at hp
      cases hp
    | some b2 =>
      try dsimp only at hp
      by_cases g3 : eo σ.2.2.2.1 b2 2 = true
      · rw [if_pos g3] at hp
        cases hy4 : sp_Node_partThatStands  b2 (σ.1 2) σ with
        | none =>
          rw [hy4] at hp
          cases hp
        | some y4 =>
          rw [hy4] at hp
          try dsimp only at hp
          refine ck_ivO (M' := m_Node_partThatStands) (As := [.int (σ.1 2)]) k_Tk_performRow rfl rfl rfl rfl rfl g3 rfl rfl (Nat.le_of_ble_eq_true rfl) (c_sp_Node_partThatStands  hy4) (fun hby4 => ?_)
          refine ck_p (L' := [some (.ref a), some (.ref b2), some (.int v2), some (va_rf y4.1), none, none]) (st' := []) k_Tk_performRow rfl (by cases y4.1 <;> rfl) ?_
          refine ck_p (L' := [some (.ref a), some (.ref b2), some (.int v2), some (va_rf y4.1), none, none]) (st' := [.ref a]) k_Tk_performRow rfl rfl ?_
          refine ck_p (L' := [some (.ref a), some (.ref b2), some (.int v2), some (va_rf y4.1), none, none]) (st' := [va_rf y4.1, .ref a]) k_Tk_performRow rfl (by cases y4.1 <;> rfl) ?_
          refine ck_p (L' := [some (.ref a), some (.ref b2), some (.int v2), some (va_rf y4.1), none, none]) (st' := [.int v2, va_rf y4.1, .ref a]) k_Tk_performRow rfl rfl ?_
          cases hy5 : g y4.1 v2 y4.2 with
          | none =>
            rw [hy5] at hp
            cases hp
          | some y5 =>
            rw [hy5] at hp
            try dsimp only at hp
            refine ck_ivB (M' := m_Tk_perform) (As := [va_rf y4.1, .int v2]) k_Tk_performRow rfl rfl rfl rfl rfl rfl rfl (Nat.le_of_ble_eq_true rfl) (hg _ _ _ _ _ (by omega) hy5) (fun hby5 => ?_)
            refine ck_p (L' := [some (.ref a), some (.ref b2), some (.int v2), some (va_rf y4.1), some (.int y5.1), none]) (st' := []) k_Tk_performRow rfl (by cases y4.1 <;> rfl) ?_
            refine ck_p (L' := [some (.ref a), some (.ref b2), some (.int v2), some (va_rf y4.1), some (.int y5.1), none]) (st' := [va_rf y4.1]) k_Tk_performRow rfl (by cases y4.1 <;> rfl) ?_
            cases hb6 : y4.1 with
            | none =>
              rw [hb6] at hp
              try dsimp only at hp
              refine ck_j k_Tk_performRow rfl rfl ?_
              refine ck_p (L' := [some (.ref a), some (.ref b2), some (.int v2), some (.null), some (.int y5.1), none]) (st' := [.null]) k_Tk_performRow rfl rfl ?_
              refine ck_j k_Tk_performRow rfl rfl ?_
              refine ck_p (L' := [some (.ref a), some (.ref b2), some (.int v2), some (.null), some (.int y5.1), some (.null)]) (st' := []) k_Tk_performRow rfl rfl ?_
              exact c_sp_Tk_performRow_42 hg (by omega) (by omega)  _ _ _ _ _ _ _ hp
            | some b6 =>
              rw [hb6] at hp
              try dsimp only at hp
              refine ck_j k_Tk_performRow rfl rfl ?_
              refine ck_p (L' := [some (.ref a), some (.ref b2), some (.int v2), some (.ref b6), some (.int y5.1), none]) (st' := [.ref b6]) k_Tk_performRow rfl rfl ?_
              cases hy11 : egR y5.2.2.2.2.1 b6 2 5 with
              | none =>
                rw [hy11] at hp
                cases hp
              | some y11 =>
                rw [hy11] at hp
                try dsimp only at hp
                refine ck_gE k_Tk_performRow rfl rfl rfl (egR_of hy11) ?_
                refine ck_p (L' := [some (.ref a), some (.ref b2), some (.int v2), some (.ref b6), some (.int y5.1), some (va_rf y11)]) (st' := []) k_Tk_performRow rfl (by cases y11 <;> rfl) ?_
                exact c_sp_Tk_performRow_42 hg (by omega) (by omega)  _ _ _ _ _ _ _ hp
      · rw [if_neg g3] at hp
        cases hp
  · skip
    rw [if_neg (show ¬ (v2 = 0) from h1)] at hp
    refine ck_p (L' := [some (.ref a), some (va_rf v1), some (.int v2), none, none, none]) (st' := [va_rf v1]) k_Tk_performRow rfl (by cases v1 <;> rfl) ?_
    cases v1 with
    | none =>
      try dsimp only at hp
      cases hp
    | some b12 =>
      try dsimp only at hp
      cases hy13 : egR σ.2.2.2.1 b12 2 2 with
      | none =>
        rw [hy13] at hp
        cases hp
      | some y13 =>
        rw [hy13] at hp
        try dsimp only at hp
        refine ck_gE k_Tk_performRow rfl rfl rfl (egR_of hy13) ?_
        refine ck_j k_Tk_performRow rfl rfl ?_
        refine ck_p (L' := [some (.ref a), some (.ref b12), some (.int v2), some (va_rf y13), none, none]) (st' := []) k_Tk_performRow rfl (by cases y13 <;> rfl) ?_
        refine ck_p (L' := [some (.ref a), some (.ref b12), some (.int v2), some (va_rf y13), none, none]) (st' := [.ref a]) k_Tk_performRow rfl rfl ?_
        refine ck_p (L' := [some (.ref a), some (.ref b12), some (.int v2), some (va_rf y13), none, none]) (st' := [va_rf y13, .ref a]) k_Tk_performRow rfl (by cases y13 <;> rfl) ?_
        refine ck_p (L' := [some (.ref a), some (.ref b12), some (.int v2), some (va_rf y13), none, none]) (st' := [.int v2, va_rf y13, .ref a]) k_Tk_performRow rfl rfl ?_
        cases hy14 : g y13 v2 σ with
        | none =>
          rw [hy14] at hp
          cases hp
        | some y14 =>
          rw [hy14] at hp
          try dsimp only at hp
          refine ck_ivB (M' := m_Tk_perform) (As := [va_rf y13, .int v2]) k_Tk_performRow rfl rfl rfl rfl rfl rfl rfl (Nat.le_of_ble_eq_true rfl) (hg _ _ _ _ _ (by omega) hy14) (fun hby14 => ?_)
          refine ck_p (L' := [some (.ref a), some (.ref b12), some (.int v2), some (va_rf y13), some (.int y14.1), none]) (st' := []) k_Tk_performRow rfl (by cases y13 <;> rfl) ?_
          refine ck_p (L' := [some (.ref a), some (.ref b12), some (.int v2), some (va_rf y13), some (.int y14.1), none]) (st' := [va_rf y13]) k_Tk_performRow rfl (by cases y13 <;> rfl) ?_
          cases y13 with
          | none =>
            try dsimp only at hp
            refine ck_j k_Tk_performRow rfl rfl ?_
            refine ck_p (L' := [some (.ref a), some (.ref b12), some (.int v2), some (.null), some (.int y14.1), none]) (st' := [.null]) k_Tk_performRow rfl rfl ?_
            refine ck_j k_Tk_performRow rfl rfl ?_
            refine ck_p (L' := [some (.ref a), some (.ref b12), some (.int v2), some (.null), some (.int y14.1), some (.null)]) (st' := []) k_Tk_performRow rfl rfl ?_
            exact c_sp_Tk_performRow_42 hg (by omega) (by omega)  _ _ _ _ _ _ _ hp
          | some b15 =>
            try dsimp only at hp
            refine ck_j k_Tk_performRow rfl rfl ?_
            refine ck_p (L' := [some (.ref a), some (.ref b12), some (.int v2), some (.ref b15), some (.int y14.1), none]) (st' := [.ref b15]) k_Tk_performRow rfl rfl ?_
            cases hy16 : egR y14.2.2.2.2.1 b15 2 5 with
            | none =>
              rw [hy16] at hp
              cases hp
            | some y16 =>
              rw [hy16] at hp
              try dsimp only at hp
              refine ck_gE k_Tk_performRow rfl rfl rfl (egR_of hy16) ?_
              refine ck_p (L' := [some (.ref a), some (.ref b12), some (.int v2), some (.ref b15), some (.int y14.1), some (va_rf y16)]) (st' := []) k_Tk_performRow rfl (by cases y16 <;> rfl) ?_
              exact c_sp_Tk_performRow_42 hg (by omega) (by omega)  _ _ _ _ _ _ _ hp
def sp_Tk_performBeside_8 (g : Option Nat → Int32 → ck_S → Option (Int32 × ck_S))  : Nat → Option Nat → Int32 → Int32 → Option Nat → ck_S → Option (Int32 × ck_S)
  | 0, _, _, _, _, _ => none
  | m + 1, v1, v2, v3, v4, σ => (match v4 with
  | none => some (v3, σ)
  | some b3 => (if v2 = 0 then (if eo σ.2.2.2.1 b3 2 = true then (match sp_Node_standsIn  b3 (σ.1 2) σ with
  | none => none
  | some y8 => (if y8.1 = 0 then (match egR y8.2.2.2.2.1 b3 2 5 with
  | none => none
  | some y10 => sp_Tk_performBeside_8 g   m v1 v2 v3 y10 y8.2) else (match g (some b3) v2 y8.2 with
  | none => none
  | some y11 => (match egR y11.2.2.2.2.1 b3 2 5 with
  | none => none
  | some y12 => sp_Tk_performBeside_8 g   m v1 v2 (q_max v3 y11.1) y12 y11.2)))) else none) else (match g (some b3) v2 σ with
  | none => none
  | some y5 => (match egR y5.2.2.2.2.1 b3 2 5 with
  | none => none
  | some y6 => sp_Tk_performBeside_8 g   m v1 v2 (q_max v3 y5.1) y6 y5.2))))
theorem c_sp_Tk_performBeside_8 (hg : tp_IH l F a A D g) (hD : D ≤ d) (h6 : 601 ≤ D) {r : Int32 × ck_S} : ∀ (m : Nat) (v1 : Option Nat) (v2 : Int32) (v3 : Int32) (v4 : Option Nat) (σ : ck_S), sp_Tk_performBeside_8 g  m v1 v2 v3 v4 σ = some r → ck_Go l F (d + 1) m_Tk_performBeside tk_K a A 8 ([some (.ref a), some (va_rf v1), some (.int v2), some (.int v3), some (va_rf v4)]) [] σ (fun w σ' => w = some (.int r.1) ∧ σ' = r.2) := by
  intro m
  induction m with
  | zero => intro v1 v2 v3 v4 σ hp; cases hp
  | succ m ihm =>
    intro v1 v2 v3 v4 σ hp
    unfold sp_Tk_performBeside_8 at hp
    refine ck_p (L' := [some (.ref a), some (va_rf v1), some (.int v2), some (.int v3), some (va_rf v4)]) (st' := [va_rf v4]) k_Tk_performBeside rfl (by cases v4 <;> rfl) ?_
    cases v4 with
    | none =>
      try dsimp only at hp
      refine ck_j k_Tk_performBeside rfl rfl ?_
      refine ck_p (L' := [some (.ref a), some (va_rf v1), some (.int v2), some (.int v3), some (.null)]) (st' := [.int v3]) k_Tk_performBeside rfl rfl ?_
      cases hp
      exact ck_ret (v := some (.int _)) k_Tk_performBeside rfl rfl trivial rfl ⟨rfl, rfl⟩
    | some b3 =>
      try dsimp only at hp
      refine ck_j k_Tk_performBeside rfl rfl ?_
      refine ck_p (L' := [some (.ref a), some (va_rf v1), some (.int v2), some (.int v3), some (.ref b3)]) (st' := [.int v2]) k_Tk_performBeside rfl rfl ?_
      refine ck_if k_Tk_performBeside rfl rfl rfl (fun h4 => ?_) (fun h4 => ?_)
      · skip
        rw [if_neg (show ¬ (v2 = 0) from h4)] at hp
        refine ck_p (L' := [some (.ref a), some (va_rf v1), some (.int v2), some (.int v3), some (.ref b3)]) (st' := [.int v3]) k_Tk_performBeside rfl rfl ?_
        refine ck_p (L' := [some (.ref a), some (va_rf v1), some (.int v2), some (.int v3), some (.ref b3)]) (st' := [.ref a, .int v3]) k_Tk_performBeside rfl rfl ?_
        refine ck_p (L' := [some (.ref a), some (va_rf v1), some (.int v2), some (.int v3), some (.ref b3)]) (st' := [.ref b3, .ref a, .int v3]) k_Tk_performBeside rfl rfl ?_
        refine ck_p (L' := [some (.ref a), some (va_rf v1), some (.int v2), some (.int v3), some (.ref b3)]) (st' := [.int v2, .ref b3, .ref a, .int v3]) k_Tk_performBeside rfl rfl ?_
        cases hy5 : g (some b3) v2 σ with
        | none =>
          rw [hy5] at hp
          cases hp
        | some y5 =>
          rw [hy5] at hp
          try dsimp only at hp
          refine ck_ivB (M' := m_Tk_perform) (As := [.ref b3, .int v2]) k_Tk_performBeside rfl rfl rfl rfl rfl rfl rfl (Nat.le_of_ble_eq_true rfl) (hg _ _ _ _ _ (by omega) hy5) (fun hby5 => ?_)
          refine ck_mx k_Tk_performBeside rfl rfl rfl (Nat.le_of_ble_eq_true rfl) ?_
          refine ck_p (L' := [some (.ref a), some (va_rf v1), some (.int v2), some (.int (q_max v3 y5.1)), some (.ref b3)]) (st' := []) k_Tk_performBeside rfl rfl ?_
          refine ck_p (L' := [some (.ref a), some (va_rf v1), some (.int v2), some (.int (q_max v3 y5.1)), some (.ref b3)]) (st' := [.ref b3]) k_Tk_performBeside rfl rfl ?_
          cases hy6 : egR y5.2.2.2.2.1 b3 2 5 with
          | none =>
            rw [hy6] at hp
            cases hp
          | some y6 =>
            rw [hy6] at hp
            try dsimp only at hp
            refine ck_gE k_Tk_performBeside rfl rfl rfl (egR_of hy6) ?_
            refine ck_p (L' := [some (.ref a), some (va_rf v1), some (.int v2), some (.int (q_max v3 y5.1)), some (va_rf y6)]) (st' := []) k_Tk_performBeside rfl (by cases y6 <;> rfl) ?_
            refine ck_j k_Tk_performBeside rfl rfl ?_
            exact ihm _ _ _ _ _ hp
      · skip
        rw [if_pos (show v2 = 0 from h4)] at hp
        refine ck_p (L' := [some (.ref a), some (va_rf v1), some (.int v2), some (.int v3), some (.ref b3)]) (st' := [.ref b3]) k_Tk_performBeside rfl rfl ?_
        refine ck_p (L' := [some (.ref a), some (va_rf v1), some (.int v2), some (.int v3), some (.ref b3)]) (st' := [.ref a, .ref b3]) k_Tk_performBeside rfl rfl ?_
        refine ck_g k_Tk_performBeside rfl rfl rfl rfl ?_
        by_cases g7 : eo σ.2.2.2.1 b3 2 = true
        · rw [if_pos g7] at hp
          cases hy8 : sp_Node_standsIn  b3 (σ.1 2) σ with
          | none =>
            rw [hy8] at hp
            cases hp
          | some y8 =>
            rw [hy8] at hp
            try dsimp only at hp
            refine ck_ivO (M' := m_Node_standsIn) (As := [.int (σ.1 2)]) k_Tk_performBeside rfl rfl rfl rfl rfl g7 rfl rfl (Nat.le_of_ble_eq_true rfl) (c_sp_Node_standsIn  hy8) (fun hby8 => ?_)
            refine ck_if k_Tk_performBeside rfl rfl rfl (fun h9 => ?_) (fun h9 => ?_)
            · skip
              rw [if_pos (show y8.1 = 0 from h9)] at hp
              refine ck_p (L' := [some (.ref a), some (va_rf v1), some (.int v2), some (.int v3), some (.ref b3)]) (st' := [.ref b3]) k_Tk_performBeside rfl rfl ?_
              cases hy10 : egR y8.2.2.2.2.1 b3 2 5 with
              | none =>
                rw [hy10] at hp
                cases hp
              | some y10 =>
                rw [hy10] at hp
                try dsimp only at hp
                refine ck_gE k_Tk_performBeside rfl rfl rfl (egR_of hy10) ?_
                refine ck_p (L' := [some (.ref a), some (va_rf v1), some (.int v2), some (.int v3), some (va_rf y10)]) (st' := []) k_Tk_performBeside rfl (by cases y10 <;> rfl) ?_
                refine ck_j k_Tk_performBeside rfl rfl ?_
                exact ihm _ _ _ _ _ hp
            · skip
              rw [if_neg (show ¬ (y8.1 = 0) from h9)] at hp
              refine ck_p (L' := [some (.ref a), some (va_rf v1), some (.int v2), some (.int v3), some (.ref b3)]) (st' := [.int v3]) k_Tk_performBeside rfl rfl ?_
              refine ck_p (L' := [some (.ref a), some (va_rf v1), some (.int v2), some (.int v3), some (.ref b3)]) (st' := [.ref a, .int v3]) k_Tk_performBeside rfl rfl ?_
              refine ck_p (L' := [some (.ref a), some (va_rf v1), some (.int v2), some (.int v3), some (.ref b3)]) (st' := [.ref b3, .ref a, .int v3]) k_Tk_performBeside rfl rfl ?_
              refine ck_p (L' := [some (.ref a), some (va_rf v1), some (.int v2), some (.int v3), some (.ref b3)]) (st' := [.int v2, .ref b3, .ref a, .int v3]) k_Tk_performBeside rfl rfl ?_
              cases hy11 : g (some b3) v2 y8.2 with
              | none =>
                rw [hy11] at hp
                cases hp
              | some y11 =>
                rw [hy11] at hp
                try dsimp only at hp
                refine ck_ivB (M' := m_Tk_perform) (As := [.ref b3, .int v2]) k_Tk_performBeside rfl rfl rfl rfl rfl rfl rfl (Nat.le_of_ble_eq_true rfl) (hg _ _ _ _ _ (by omega) hy11) (fun hby11 => ?_)
                refine ck_mx k_Tk_performBeside rfl rfl rfl (Nat.le_of_ble_eq_true rfl) ?_
                refine ck_p (L' := [some (.ref a), some (va_rf v1), some (.int v2), some (.int (q_max v3 y11.1)), some (.ref b3)]) (st' := []) k_Tk_performBeside rfl rfl ?_
                refine ck_p (L' := [some (.ref a), some (va_rf v1), some (.int v2), some (.int (q_max v3 y11.1)), some (.ref b3)]) (st' := [.ref b3]) k_Tk_performBeside rfl rfl ?_
                cases hy12 : egR y11.2.2.2.2.1 b3 2 5 with
                | none =>
                  rw [hy12] at hp
                  cases hp
                | some y12 =>
                  rw [hy12] at hp
                  try dsimp only at hp
                  refine ck_gE k_Tk_performBeside rfl rfl rfl (egR_of hy12) ?_
                  refine ck_p (L' := [some (.ref a), some (va_rf v1), some (.int v2), some (.int (q_max v3 y11.1)), some (va_rf y12)]) (st' := []) k_Tk_performBeside rfl (by cases y12 <;> rfl) ?_
                  refine ck_j k_Tk_performBeside rfl rfl ?_
                  exact ihm _ _ _ _ _ hp
        · rw [if_neg g7] at hp
          cases hp
def sp_Tk_performBeside (g : Option Nat → Int32 → ck_S → Option (Int32 × ck_S)) (v1 : Option Nat) (v2 : Int32) (σ : ck_S) : Option (Int32 × ck_S) := (match v1 with
  | none => none
  | some b1 => (match egR σ.2.2.2.1 b1 2 2 with
  | none => none
  | some y2 => sp_Tk_performBeside_8 g  2601 (some b1) v2 0 y2 σ))
theorem c_sp_Tk_performBeside (hg : tp_IH l F a A D g) (hD : D ≤ d) (h6 : 601 ≤ D) {v1 : Option Nat} {v2 : Int32} {σ : ck_S} {r : Int32 × ck_S} (hp : sp_Tk_performBeside g v1 v2 σ = some r) : ck_Has l F (d + 1) m_Tk_performBeside tk_K a A [.ref a, va_rf v1, .int v2] σ (fun w σ' => w = some (.int r.1) ∧ σ' = r.2) := by
  refine ck_meth (k := 2) (L := [some (.ref a), some (va_rf v1), some (.int v2), none, none]) pn_Tk (by cases v1 <;> rfl) (by cases v1 <;> exact (Nat.le_of_ble_eq_true rfl)) ?_
  unfold sp_Tk_performBeside at hp
  refine ck_p (L' := [some (.ref a), some (va_rf v1), some (.int v2), none, none]) (st' := [.int 0]) k_Tk_performBeside rfl rfl ?_
  refine ck_p (L' := [some (.ref a), some (va_rf v1), some (.int v2), some (.int 0), none]) (st' := []) k_Tk_performBeside rfl rfl ?_
  refine ck_p (L' := [some (.ref a), some (va_rf v1), some (.int v2), some (.int 0), none]) (st' := [va_rf v1]) k_Tk_performBeside rfl (by cases v1 <;> rfl) ?_
  cases v1 with
  | none =>
    try dsimp only at hp
    cases hp
  | some b1 =>
    try dsimp only at hp
    cases hy2 : egR σ.2.2.2.1 b1 2 2 with
    | none =>
      rw [hy2] at hp
      cases hp
    | some y2 =>
      rw [hy2] at hp
      try dsimp only at hp
      refine ck_gE k_Tk_performBeside rfl rfl rfl (egR_of hy2) ?_
      refine ck_p (L' := [some (.ref a), some (.ref b1), some (.int v2), some (.int 0), some (va_rf y2)]) (st' := []) k_Tk_performBeside rfl (by cases y2 <;> rfl) ?_
      exact c_sp_Tk_performBeside_8 hg (by omega) (by omega)  _ _ _ _ _ _ hp
def sp_Tk_perform (g : Option Nat → Int32 → ck_S → Option (Int32 × ck_S)) (v1 : Option Nat) (v2 : Int32) (σ : ck_S) : Option (Int32 × ck_S) := (match v1 with
  | none => some (0, σ)
  | some b1 => (match egI σ.2.2.2.1 b1 2 0 with
  | none => none
  | some y2 => (if y2 = 1 then (if v2 = 0 then some (0, ((upd σ.1 7 ((σ.1 7) ||| 0)), σ.2.1, σ.2.2.1, σ.2.2.2.1, σ.2.2.2.2.1, σ.2.2.2.2.2)) else (match egI σ.2.2.2.1 b1 2 1 with
  | none => none
  | some y6 => some (1, ((upd σ.1 7 ((σ.1 7) ||| y6)), σ.2.1, σ.2.2.1, σ.2.2.2.1, σ.2.2.2.2.1, σ.2.2.2.2.2)))) else (if y2 = 2 then some (0, σ) else (if y2 = 3 then (match sp_Tk_performAsk g (some b1) v2 σ with
  | none => none
  | some y10 => some (y10.1, y10.2)) else (if y2 = 4 then (match sp_Tk_performLoop g (some b1) v2 σ with
  | none => none
  | some y12 => some (y12.1, y12.2)) else (if y2 = 5 then (match sp_Tk_performSuspend g (some b1) v2 σ with
  | none => none
  | some y14 => some (y14.1, y14.2)) else (if y2 = 6 then (match sp_Tk_performTrap g (some b1) v2 σ with
  | none => none
  | some y16 => some (y16.1, y16.2)) else (if y2 = 7 then (match egI σ.2.2.2.1 b1 2 1 with
  | none => none
  | some y18 => some (y18, σ)) else (if y2 = 8 then (match sp_Tk_performLocal g (some b1) v2 σ with
  | none => none
  | some y20 => some (y20.1, y20.2)) else (if y2 = 9 then (match sp_Tk_performRow g (some b1) v2 σ with
  | none => none
  | some y22 => some (y22.1, y22.2)) else (if y2 = 10 then (match sp_Tk_performBeside g (some b1) v2 σ with
  | none => none
  | some y24 => some (y24.1, y24.2)) else some (0, σ)))))))))))))
theorem c_sp_Tk_perform (hg : tp_IH l F a A D g) (hD : D ≤ d) (h6 : 601 ≤ D) {v1 : Option Nat} {v2 : Int32} {σ : ck_S} {r : Int32 × ck_S} (hp : sp_Tk_perform g v1 v2 σ = some r) : ck_Has l F (d + 3) m_Tk_perform tk_K a A [.ref a, va_rf v1, .int v2] σ (fun w σ' => w = some (.int r.1) ∧ σ' = r.2) := by
  refine ck_meth (k := 0) (L := [some (.ref a), some (va_rf v1), some (.int v2)]) pn_Tk (by cases v1 <;> rfl) (by cases v1 <;> exact (Nat.le_of_ble_eq_true rfl)) ?_
  unfold sp_Tk_perform at hp
  refine ck_p (L' := [some (.ref a), some (va_rf v1), some (.int v2)]) (st' := [va_rf v1]) k_Tk_perform rfl (by cases v1 <;> rfl) ?_
  cases v1 with
  | none =>
    try dsimp only at hp
    refine ck_j k_Tk_perform rfl rfl ?_
    refine ck_p (L' := [some (.ref a), some (.null), some (.int v2)]) (st' := [.int 0]) k_Tk_perform rfl rfl ?_
    cases hp
    exact ck_ret (v := some (.int _)) k_Tk_perform rfl rfl trivial rfl ⟨rfl, rfl⟩
  | some b1 =>
    try dsimp only at hp
    refine ck_j k_Tk_perform rfl rfl ?_
    refine ck_p (L' := [some (.ref a), some (.ref b1), some (.int v2)]) (st' := [.ref b1]) k_Tk_perform rfl rfl ?_
    cases hy2 : egI σ.2.2.2.1 b1 2 0 with
    | none =>
      rw [hy2] at hp
      cases hp
    | some y2 =>
      rw [hy2] at hp
      try dsimp only at hp
      refine ck_gE k_Tk_perform rfl rfl rfl (egI_of hy2) ?_
      by_cases h3 : y2 = 1
      · rw [if_pos h3] at hp
        refine ck_tJ (tgt := 64) k_Tk_perform rfl rfl h3 (by decide) (by decide) rfl rfl ?_
        refine ck_p (L' := [some (.ref a), some (.ref b1), some (.int v2)]) (st' := [.ref a]) k_Tk_perform rfl rfl ?_
        refine ck_p (L' := [some (.ref a), some (.ref b1), some (.int v2)]) (st' := [.ref a, .ref a]) k_Tk_perform rfl rfl ?_
        refine ck_g k_Tk_perform rfl rfl rfl rfl ?_
        refine ck_p (L' := [some (.ref a), some (.ref b1), some (.int v2)]) (st' := [.int v2, .int (σ.1 7), .ref a]) k_Tk_perform rfl rfl ?_
        refine ck_if k_Tk_perform rfl rfl rfl (fun h4 => ?_) (fun h4 => ?_)
        · skip
          rw [if_pos (show v2 = 0 from h4)] at hp
          refine ck_p (L' := [some (.ref a), some (.ref b1), some (.int v2)]) (st' := [.int 0, .int (σ.1 7), .ref a]) k_Tk_perform rfl rfl ?_
          refine ck_p (L' := [some (.ref a), some (.ref b1), some (.int v2)]) (st' := [.int ((σ.1 7) ||| 0), .ref a]) k_Tk_perform rfl rfl ?_
          refine ck_pt k_Tk_perform rfl rfl rfl trivial (Nat.le_of_ble_eq_true rfl) rfl ?_
          refine ck_p (L' := [some (.ref a), some (.ref b1), some (.int v2)]) (st' := [.int v2]) k_Tk_perform rfl rfl ?_
          refine ck_if k_Tk_perform rfl rfl rfl (fun h5 => ?_) (fun h5 => ?_)
          · skip
            refine ck_p (L' := [some (.ref a), some (.ref b1), some (.int v2)]) (st' := [.int 0]) k_Tk_perform rfl rfl ?_
            cases hp
            exact ck_ret (v := some (.int _)) k_Tk_perform rfl rfl trivial rfl ⟨rfl, rfl⟩
          · skip
            exact absurd h4 h5
        · skip
          rw [if_neg (show ¬ (v2 = 0) from h4)] at hp
          refine ck_p (L' := [some (.ref a), some (.ref b1), some (.int v2)]) (st' := [.ref b1, .int (σ.1 7), .ref a]) k_Tk_perform rfl rfl ?_
          cases hy6 : egI σ.2.2.2.1 b1 2 1 with
          | none =>
            rw [hy6] at hp
            cases hp
          | some y6 =>
            rw [hy6] at hp
            try dsimp only at hp
            refine ck_gE k_Tk_perform rfl rfl rfl (egI_of hy6) ?_
            refine ck_j k_Tk_perform rfl rfl ?_
            refine ck_p (L' := [some (.ref a), some (.ref b1), some (.int v2)]) (st' := [.int ((σ.1 7) ||| y6), .ref a]) k_Tk_perform rfl rfl ?_
            refine ck_pt k_Tk_perform rfl rfl rfl trivial (Nat.le_of_ble_eq_true rfl) rfl ?_
            refine ck_p (L' := [some (.ref a), some (.ref b1), some (.int v2)]) (st' := [.int v2]) k_Tk_perform rfl rfl ?_
            refine ck_if k_Tk_perform rfl rfl rfl (fun h7 => ?_) (fun h7 => ?_)
            · skip
              exact absurd h7 h4
            · skip
              refine ck_p (L' := [some (.ref a), some (.ref b1), some (.int v2)]) (st' := [.int 1]) k_Tk_perform rfl rfl ?_
              refine ck_j k_Tk_perform rfl rfl ?_
              cases hp
              exact ck_ret (v := some (.int _)) k_Tk_perform rfl rfl trivial rfl ⟨rfl, rfl⟩
      · rw [if_neg h3] at hp
        by_cases h8 : y2 = 2
        · rw [if_pos h8] at hp
          refine ck_tJ (tgt := 149) k_Tk_perform rfl rfl h8 (by decide) (by decide) rfl rfl ?_
          refine ck_p (L' := [some (.ref a), some (.ref b1), some (.int v2)]) (st' := [.int 0]) k_Tk_perform rfl rfl ?_
          cases hp
          exact ck_ret (v := some (.int _)) k_Tk_perform rfl rfl trivial rfl ⟨rfl, rfl⟩
        · rw [if_neg h8] at hp
          by_cases h9 : y2 = 3
          · rw [if_pos h9] at hp
            refine ck_tJ (tgt := 100) k_Tk_perform rfl rfl h9 (by decide) (by decide) rfl rfl ?_
            refine ck_p (L' := [some (.ref a), some (.ref b1), some (.int v2)]) (st' := [.ref a]) k_Tk_perform rfl rfl ?_
            refine ck_p (L' := [some (.ref a), some (.ref b1), some (.int v2)]) (st' := [.ref b1, .ref a]) k_Tk_perform rfl rfl ?_
            refine ck_p (L' := [some (.ref a), some (.ref b1), some (.int v2)]) (st' := [.int v2, .ref b1, .ref a]) k_Tk_perform rfl rfl ?_
            cases hy10 : sp_Tk_performAsk g (some b1) v2 σ with
            | none =>
              rw [hy10] at hp
              cases hp
            | some y10 =>
              rw [hy10] at hp
              try dsimp only at hp
              refine ck_ivB (M' := m_Tk_performAsk) (As := [.ref b1, .int v2]) k_Tk_perform rfl rfl rfl rfl rfl rfl rfl (Nat.le_of_ble_eq_true rfl) (c_sp_Tk_performAsk hg (by omega) (by omega) hy10) (fun hby10 => ?_)
              cases hp
              exact ck_ret (v := some (.int _)) k_Tk_perform rfl rfl trivial rfl ⟨rfl, rfl⟩
          · rw [if_neg h9] at hp
            by_cases h11 : y2 = 4
            · rw [if_pos h11] at hp
              refine ck_tJ (tgt := 107) k_Tk_perform rfl rfl h11 (by decide) (by decide) rfl rfl ?_
              refine ck_p (L' := [some (.ref a), some (.ref b1), some (.int v2)]) (st' := [.ref a]) k_Tk_perform rfl rfl ?_
              refine ck_p (L' := [some (.ref a), some (.ref b1), some (.int v2)]) (st' := [.ref b1, .ref a]) k_Tk_perform rfl rfl ?_
              refine ck_p (L' := [some (.ref a), some (.ref b1), some (.int v2)]) (st' := [.int v2, .ref b1, .ref a]) k_Tk_perform rfl rfl ?_
              cases hy12 : sp_Tk_performLoop g (some b1) v2 σ with
              | none =>
                rw [hy12] at hp
                cases hp
              | some y12 =>
                rw [hy12] at hp
                try dsimp only at hp
                refine ck_ivB (M' := m_Tk_performLoop) (As := [.ref b1, .int v2]) k_Tk_perform rfl rfl rfl rfl rfl rfl rfl (Nat.le_of_ble_eq_true rfl) (c_sp_Tk_performLoop hg (by omega) (by omega) hy12) (fun hby12 => ?_)
                cases hp
                exact ck_ret (v := some (.int _)) k_Tk_perform rfl rfl trivial rfl ⟨rfl, rfl⟩
            · rw [if_neg h11] at hp
              by_cases h13 : y2 = 5
              · rw [if_pos h13] at hp
                refine ck_tJ (tgt := 114) k_Tk_perform rfl rfl h13 (by decide) (by decide) rfl rfl ?_
                refine ck_p (L' := [some (.ref a), some (.ref b1), some (.int v2)]) (st' := [.ref a]) k_Tk_perform rfl rfl ?_
                refine ck_p (L' := [some (.ref a), some (.ref b1), some (.int v2)]) (st' := [.ref b1, .ref a]) k_Tk_perform rfl rfl ?_
                refine ck_p (L' := [some (.ref a), some (.ref b1), some (.int v2)]) (st' := [.int v2, .ref b1, .ref a]) k_Tk_perform rfl rfl ?_
                cases hy14 : sp_Tk_performSuspend g (some b1) v2 σ with
                | none =>
                  rw [hy14] at hp
                  cases hp
                | some y14 =>
                  rw [hy14] at hp
                  try dsimp only at hp
                  refine ck_ivB (M' := m_Tk_performSuspend) (As := [.ref b1, .int v2]) k_Tk_perform rfl rfl rfl rfl rfl rfl rfl (Nat.le_of_ble_eq_true rfl) (c_sp_Tk_performSuspend hg (by omega) (by omega) hy14) (fun hby14 => ?_)
                  cases hp
                  exact ck_ret (v := some (.int _)) k_Tk_perform rfl rfl trivial rfl ⟨rfl, rfl⟩
              · rw [if_neg h13] at hp
                by_cases h15 : y2 = 6
                · rw [if_pos h15] at hp
                  refine ck_tJ (tgt := 121) k_Tk_perform rfl rfl h15 (by decide) (by decide) rfl rfl ?_
                  refine ck_p (L' := [some (.ref a), some (.ref b1), some (.int v2)]) (st' := [.ref a]) k_Tk_perform rfl rfl ?_
                  refine ck_p (L' := [some (.ref a), some (.ref b1), some (.int v2)]) (st' := [.ref b1, .ref a]) k_Tk_perform rfl rfl ?_
                  refine ck_p (L' := [some (.ref a), some (.ref b1), some (.int v2)]) (st' := [.int v2, .ref b1, .ref a]) k_Tk_perform rfl rfl ?_
                  cases hy16 : sp_Tk_performTrap g (some b1) v2 σ with
                  | none =>
                    rw [hy16] at hp
                    cases hp
                  | some y16 =>
                    rw [hy16] at hp
                    try dsimp only at hp
                    refine ck_ivB (M' := m_Tk_performTrap) (As := [.ref b1, .int v2]) k_Tk_perform rfl rfl rfl rfl rfl rfl rfl (Nat.le_of_ble_eq_true rfl) (c_sp_Tk_performTrap hg (by omega) (by omega) hy16) (fun hby16 => ?_)
                    cases hp
                    exact ck_ret (v := some (.int _)) k_Tk_perform rfl rfl trivial rfl ⟨rfl, rfl⟩
                · rw [if_neg h15] at hp
                  by_cases h17 : y2 = 7
                  · rw [if_pos h17] at hp
                    refine ck_tJ (tgt := 95) k_Tk_perform rfl rfl h17 (by decide) (by decide) rfl rfl ?_
                    refine ck_p (L' := [some (.ref a), some (.ref b1), some (.int v2)]) (st' := [.ref b1]) k_Tk_perform rfl rfl ?_
                    cases hy18 : egI σ.2.2.2.1 b1 2 1 with
                    | none =>
                      rw [hy18] at hp
                      cases hp
                    | some y18 =>
                      rw [hy18] at hp
                      try dsimp only at hp
                      refine ck_gE k_Tk_perform rfl rfl rfl (egI_of hy18) ?_
                      cases hp
                      exact ck_ret (v := some (.int _)) k_Tk_perform rfl rfl trivial rfl ⟨rfl, rfl⟩
                  · rw [if_neg h17] at hp
                    by_cases h19 : y2 = 8
                    · rw [if_pos h19] at hp
                      refine ck_tJ (tgt := 128) k_Tk_perform rfl rfl h19 (by decide) (by decide) rfl rfl ?_
                      refine ck_p (L' := [some (.ref a), some (.ref b1), some (.int v2)]) (st' := [.ref a]) k_Tk_perform rfl rfl ?_
                      refine ck_p (L' := [some (.ref a), some (.ref b1), some (.int v2)]) (st' := [.ref b1, .ref a]) k_Tk_perform rfl rfl ?_
                      refine ck_p (L' := [some (.ref a), some (.ref b1), some (.int v2)]) (st' := [.int v2, .ref b1, .ref a]) k_Tk_perform rfl rfl ?_
                      cases hy20 : sp_Tk_performLocal g (some b1) v2 σ with
                      | none =>
                        rw [hy20] at hp
                        cases hp
                      | some y20 =>
                        rw [hy20] at hp
                        try dsimp only at hp
                        refine ck_ivB (M' := m_Tk_performLocal) (As := [.ref b1, .int v2]) k_Tk_perform rfl rfl rfl rfl rfl rfl rfl (Nat.le_of_ble_eq_true rfl) (c_sp_Tk_performLocal hg (by omega) (by omega) hy20) (fun hby20 => ?_)
                        cases hp
                        exact ck_ret (v := some (.int _)) k_Tk_perform rfl rfl trivial rfl ⟨rfl, rfl⟩
                    · rw [if_neg h19] at hp
                      by_cases h21 : y2 = 9
                      · rw [if_pos h21] at hp
                        refine ck_tJ (tgt := 135) k_Tk_perform rfl rfl h21 (by decide) (by decide) rfl rfl ?_
                        refine ck_p (L' := [some (.ref a), some (.ref b1), some (.int v2)]) (st' := [.ref a]) k_Tk_perform rfl rfl ?_
                        refine ck_p (L' := [some (.ref a), some (.ref b1), some (.int v2)]) (st' := [.ref b1, .ref a]) k_Tk_perform rfl rfl ?_
                        refine ck_p (L' := [some (.ref a), some (.ref b1), some (.int v2)]) (st' := [.int v2, .ref b1, .ref a]) k_Tk_perform rfl rfl ?_
                        cases hy22 : sp_Tk_performRow g (some b1) v2 σ with
                        | none =>
                          rw [hy22] at hp
                          cases hp
                        | some y22 =>
                          rw [hy22] at hp
                          try dsimp only at hp
                          refine ck_ivB (M' := m_Tk_performRow) (As := [.ref b1, .int v2]) k_Tk_perform rfl rfl rfl rfl rfl rfl rfl (Nat.le_of_ble_eq_true rfl) (c_sp_Tk_performRow hg (by omega) (by omega) hy22) (fun hby22 => ?_)
                          cases hp
                          exact ck_ret (v := some (.int _)) k_Tk_perform rfl rfl trivial rfl ⟨rfl, rfl⟩
                      · rw [if_neg h21] at hp
                        by_cases h23 : y2 = 10
                        · rw [if_pos h23] at hp
                          refine ck_tJ (tgt := 142) k_Tk_perform rfl rfl h23 (by decide) (by decide) rfl rfl ?_
                          refine ck_p (L' := [some (.ref a), some (.ref b1), some (.int v2)]) (st' := [.ref a]) k_Tk_perform rfl rfl ?_
                          refine ck_p (L' := [some (.ref a), some (.ref b1), some (.int v2)]) (st' := [.ref b1, .ref a]) k_Tk_perform rfl rfl ?_
                          refine ck_p (L' := [some (.ref a), some (.ref b1), some (.int v2)]) (st' := [.int v2, .ref b1, .ref a]) k_Tk_perform rfl rfl ?_
                          cases hy24 : sp_Tk_performBeside g (some b1) v2 σ with
                          | none =>
                            rw [hy24] at hp
                            cases hp
                          | some y24 =>
                            rw [hy24] at hp
                            try dsimp only at hp
                            refine ck_ivB (M' := m_Tk_performBeside) (As := [.ref b1, .int v2]) k_Tk_perform rfl rfl rfl rfl rfl rfl rfl (Nat.le_of_ble_eq_true rfl) (c_sp_Tk_performBeside hg (by omega) (by omega) hy24) (fun hby24 => ?_)
                            cases hp
                            exact ck_ret (v := some (.int _)) k_Tk_perform rfl rfl trivial rfl ⟨rfl, rfl⟩
                        · rw [if_neg h23] at hp
                          refine ck_tO (tgt := 149) k_Tk_perform rfl rfl (sw_Tk_perform h3 h8 h9 h11 h13 h15 h17 h19 h21 h23) rfl ?_
                          refine ck_p (L' := [some (.ref a), some (.ref b1), some (.int v2)]) (st' := [.int 0]) k_Tk_perform rfl rfl ?_
                          cases hp
                          exact ck_ret (v := some (.int _)) k_Tk_perform rfl rfl trivial rfl ⟨rfl, rfl⟩
def tp : Nat → Option Nat → Int32 → ck_S → Option (Int32 × ck_S)
  | 0 => fun _ _ _ => none
  | n + 1 => fun v b σ => sp_Tk_perform (tp n) v b σ
theorem c_tp (n : Nat) : tp_IH l F a A (3 * n + 601) (tp n) := by
  induction n with
  | zero => exact fun _ _ _ _ _ _ h => nomatch h
  | succ n ih =>
    intro dd v b σ r hd h
    obtain ⟨d, rfl⟩ : ∃ d, dd = d + 3 := ⟨dd - 3, by omega⟩
    exact c_sp_Tk_perform ih (by omega) (by omega) h
def sp_Tk_go  (v1 : Option Nat) (v2 : Int32) (v3 : Int32) (σ : ck_S) : Option (Int32 × ck_S) := (if v2 = (-3) then some (0, ((upd (upd σ.1 0 (-3)) 1 0), σ.2.1, σ.2.2.1, σ.2.2.2.1, σ.2.2.2.2.1, σ.2.2.2.2.2)) else (if v2 = (-2) then (match v1 with
  | none => none
  | some b20 => (if eo σ.2.2.2.1 b20 3 = true then (match sp_Prog_inputBits  b20 ((upd (upd σ.1 2 0) 3 v3), σ.2.1, σ.2.2.1, σ.2.2.2.1, σ.2.2.2.2.1, σ.2.2.2.2.2) with
  | none => none
  | some y22 => (match sp_Tk_settles  (some b20) 1 ((upd y22.2.1 4 (y22.1 &&& (v3 ^^^ (-1)))), y22.2.2.1, y22.2.2.2.1, y22.2.2.2.2.1, y22.2.2.2.2.2.1, y22.2.2.2.2.2.2) with
  | none => none
  | some y23 => (if y23.1 = 0 then some (1, y23.2) else (match egR y23.2.2.2.2.1 b20 3 3 with
  | none => none
  | some y25 => (match tp 200 y25 1 ((upd (upd y23.2.1 7 0) 8 0), y23.2.2.1, y23.2.2.2.1, y23.2.2.2.2.1, y23.2.2.2.2.2.1, y23.2.2.2.2.2.2) with
  | none => none
  | some y26 => (if (y26.2.1 8) = 0 then (if y26.1 = 0 then (if eo y26.2.2.2.2.1 b20 3 = true then (match sp_Prog_outputBits  b20 ((upd y26.2.1 0 (-3)), y26.2.2.1, y26.2.2.2.1, y26.2.2.2.2.1, y26.2.2.2.2.2.1, y26.2.2.2.2.2.2) with
  | none => none
  | some y33 => (match egI y33.2.2.2.2.1 b20 3 1 with
  | none => none
  | some y34 => some (0, ((upd y33.2.1 1 (q_ush ((y26.2.1 3) &&& y33.1) y34)), y33.2.2.1, y33.2.2.2.1, y33.2.2.2.2.1, y33.2.2.2.2.2.1, y33.2.2.2.2.2.2)))) else none) else (if eo y26.2.2.2.2.1 b20 3 = true then (match sp_Prog_outputBits  b20 ((upd y26.2.1 0 (y26.2.1 7)), y26.2.2.1, y26.2.2.2.1, y26.2.2.2.2.1, y26.2.2.2.2.2.1, y26.2.2.2.2.2.2) with
  | none => none
  | some y30 => (match egI y30.2.2.2.2.1 b20 3 1 with
  | none => none
  | some y31 => some (0, ((upd y30.2.1 1 (q_ush ((y26.2.1 3) &&& y30.1) y31)), y30.2.2.1, y30.2.2.2.1, y30.2.2.2.2.1, y30.2.2.2.2.2.1, y30.2.2.2.2.2.2)))) else none)) else some (2, y26.2))))))) else none)) else (match v1 with
  | none => none
  | some b4 => (if eo σ.2.2.2.1 b4 3 = true then (match sp_Prog_inputBits  b4 ((upd (upd σ.1 2 v2) 3 v3), σ.2.1, σ.2.2.1, σ.2.2.2.1, σ.2.2.2.2.1, σ.2.2.2.2.2) with
  | none => none
  | some y6 => (match sp_Tk_settles  (some b4) 0 ((upd y6.2.1 4 (y6.1 &&& (v3 ^^^ (-1)))), y6.2.2.1, y6.2.2.2.1, y6.2.2.2.2.1, y6.2.2.2.2.2.1, y6.2.2.2.2.2.2) with
  | none => none
  | some y7 => (if y7.1 = 0 then some (1, y7.2) else (match egR y7.2.2.2.2.1 b4 3 3 with
  | none => none
  | some y9 => (match tp 200 y9 0 ((upd (upd y7.2.1 7 0) 8 0), y7.2.2.1, y7.2.2.2.1, y7.2.2.2.2.1, y7.2.2.2.2.2.1, y7.2.2.2.2.2.2) with
  | none => none
  | some y10 => (if (y10.2.1 8) = 0 then (if y10.1 = 0 then (if eo y10.2.2.2.2.1 b4 3 = true then (match sp_Prog_outputBits  b4 ((upd y10.2.1 0 (-3)), y10.2.2.1, y10.2.2.2.1, y10.2.2.2.2.1, y10.2.2.2.2.2.1, y10.2.2.2.2.2.2) with
  | none => none
  | some y17 => (match egI y17.2.2.2.2.1 b4 3 1 with
  | none => none
  | some y18 => some (0, ((upd y17.2.1 1 (q_ush ((y10.2.1 3) &&& y17.1) y18)), y17.2.2.1, y17.2.2.2.1, y17.2.2.2.2.1, y17.2.2.2.2.2.1, y17.2.2.2.2.2.2)))) else none) else (if eo y10.2.2.2.2.1 b4 3 = true then (match sp_Prog_outputBits  b4 ((upd y10.2.1 0 (y10.2.1 7)), y10.2.2.1, y10.2.2.2.1, y10.2.2.2.2.1, y10.2.2.2.2.2.1, y10.2.2.2.2.2.2) with
  | none => none
  | some y14 => (match egI y14.2.2.2.2.1 b4 3 1 with
  | none => none
  | some y15 => some (0, ((upd y14.2.1 1 (q_ush ((y10.2.1 3) &&& y14.1) y15)), y14.2.2.1, y14.2.2.2.1, y14.2.2.2.2.1, y14.2.2.2.2.2.1, y14.2.2.2.2.2.2)))) else none)) else some (2, y10.2))))))) else none))))
theorem c_sp_Tk_go  {v1 : Option Nat} {v2 : Int32} {v3 : Int32} {σ : ck_S} {r : Int32 × ck_S} (hp : sp_Tk_go  v1 v2 v3 σ = some r) : ck_Has l F (d + 1202) m_Tk_go tk_K a A [.ref a, va_rf v1, .int v2, .int v3] σ (fun w σ' => w = some (.int r.1) ∧ σ' = r.2) := by
  refine ck_meth (k := 2) (L := [some (.ref a), some (va_rf v1), some (.int v2), some (.int v3), none, none]) pn_Tk (by cases v1 <;> rfl) (by cases v1 <;> exact (Nat.le_of_ble_eq_true rfl)) ?_
  unfold sp_Tk_go at hp
  refine ck_p (L' := [some (.ref a), some (va_rf v1), some (.int v2), some (.int v3), none, none]) (st' := [.int v2]) k_Tk_go rfl rfl ?_
  refine ck_p (L' := [some (.ref a), some (va_rf v1), some (.int v2), some (.int v3), none, none]) (st' := [.int (-3), .int v2]) k_Tk_go rfl rfl ?_
  refine ck_ic k_Tk_go rfl rfl rfl (fun h1 => ?_) (fun h1 => ?_)
  · skip
    rw [if_neg (show ¬ (v2 = (-3)) from h1)] at hp
    refine ck_p (L' := [some (.ref a), some (va_rf v1), some (.int v2), some (.int v3), none, none]) (st' := [.int v2]) k_Tk_go rfl rfl ?_
    refine ck_p (L' := [some (.ref a), some (va_rf v1), some (.int v2), some (.int v3), none, none]) (st' := [.int (-2), .int v2]) k_Tk_go rfl rfl ?_
    refine ck_ic k_Tk_go rfl rfl rfl (fun h2 => ?_) (fun h2 => ?_)
    · skip
      rw [if_neg (show ¬ (v2 = (-2)) from h2)] at hp
      refine ck_p (L' := [some (.ref a), some (va_rf v1), some (.int v2), some (.int v3), none, none]) (st' := [.int 0]) k_Tk_go rfl rfl ?_
      refine ck_p (L' := [some (.ref a), some (va_rf v1), some (.int v2), some (.int v3), some (.int 0), none]) (st' := []) k_Tk_go rfl rfl ?_
      refine ck_p (L' := [some (.ref a), some (va_rf v1), some (.int v2), some (.int v3), some (.int 0), none]) (st' := [.ref a]) k_Tk_go rfl rfl ?_
      refine ck_p (L' := [some (.ref a), some (va_rf v1), some (.int v2), some (.int v3), some (.int 0), none]) (st' := [.int 0, .ref a]) k_Tk_go rfl rfl ?_
      refine ck_if k_Tk_go rfl rfl rfl (fun h3 => ?_) (fun h3 => ?_)
      · skip
        refine ck_p (L' := [some (.ref a), some (va_rf v1), some (.int v2), some (.int v3), some (.int 0), none]) (st' := [.int v2, .ref a]) k_Tk_go rfl rfl ?_
        refine ck_pt k_Tk_go rfl rfl rfl trivial (Nat.le_of_ble_eq_true rfl) rfl ?_
        refine ck_p (L' := [some (.ref a), some (va_rf v1), some (.int v2), some (.int v3), some (.int 0), none]) (st' := [.ref a]) k_Tk_go rfl rfl ?_
        refine ck_p (L' := [some (.ref a), some (va_rf v1), some (.int v2), some (.int v3), some (.int 0), none]) (st' := [.int v3, .ref a]) k_Tk_go rfl rfl ?_
        refine ck_pt k_Tk_go rfl rfl rfl trivial (Nat.le_of_ble_eq_true rfl) rfl ?_
        refine ck_p (L' := [some (.ref a), some (va_rf v1), some (.int v2), some (.int v3), some (.int 0), none]) (st' := [.ref a]) k_Tk_go rfl rfl ?_
        refine ck_p (L' := [some (.ref a), some (va_rf v1), some (.int v2), some (.int v3), some (.int 0), none]) (st' := [va_rf v1, .ref a]) k_Tk_go rfl (by cases v1 <;> rfl) ?_
        cases v1 with
        | none =>
          try dsimp only at hp
          cases hp
        | some b4 =>
          try dsimp only at hp
          by_cases g5 : eo σ.2.2.2.1 b4 3 = true
          · rw [if_pos g5] at hp
            cases hy6 : sp_Prog_inputBits  b4 ((upd (upd σ.1 2 v2) 3 v3), σ.2.1, σ.2.2.1, σ.2.2.2.1, σ.2.2.2.2.1, σ.2.2.2.2.2) with
            | none =>
              rw [hy6] at hp
              cases hp
            | some y6 =>
              rw [hy6] at hp
              try dsimp only at hp
              refine ck_ivO (M' := m_Prog_inputBits) (As := []) k_Tk_go rfl rfl rfl rfl rfl g5 rfl rfl (Nat.le_of_ble_eq_true rfl) (c_sp_Prog_inputBits  hy6) (fun hby6 => ?_)
              refine ck_p (L' := [some (.ref a), some (.ref b4), some (.int v2), some (.int v3), some (.int 0), none]) (st' := [.int v3, .int y6.1, .ref a]) k_Tk_go rfl rfl ?_
              refine ck_p (L' := [some (.ref a), some (.ref b4), some (.int v2), some (.int v3), some (.int 0), none]) (st' := [.int (-1), .int v3, .int y6.1, .ref a]) k_Tk_go rfl rfl ?_
              refine ck_p (L' := [some (.ref a), some (.ref b4), some (.int v2), some (.int v3), some (.int 0), none]) (st' := [.int (v3 ^^^ (-1)), .int y6.1, .ref a]) k_Tk_go rfl rfl ?_
              refine ck_p (L' := [some (.ref a), some (.ref b4), some (.int v2), some (.int v3), some (.int 0), none]) (st' := [.int (y6.1 &&& (v3 ^^^ (-1))), .ref a]) k_Tk_go rfl rfl ?_
              refine ck_pt k_Tk_go rfl rfl rfl trivial (Nat.le_of_ble_eq_true rfl) rfl ?_
              refine ck_p (L' := [some (.ref a), some (.ref b4), some (.int v2), some (.int v3), some (.int 0), none]) (st' := [.ref a]) k_Tk_go rfl rfl ?_
              refine ck_p (L' := [some (.ref a), some (.ref b4), some (.int v2), some (.int v3), some (.int 0), none]) (st' := [.ref b4, .ref a]) k_Tk_go rfl rfl ?_
              refine ck_p (L' := [some (.ref a), some (.ref b4), some (.int v2), some (.int v3), some (.int 0), none]) (st' := [.int 0, .ref b4, .ref a]) k_Tk_go rfl rfl ?_
              cases hy7 : sp_Tk_settles  (some b4) 0 ((upd y6.2.1 4 (y6.1 &&& (v3 ^^^ (-1)))), y6.2.2.1, y6.2.2.2.1, y6.2.2.2.2.1, y6.2.2.2.2.2.1, y6.2.2.2.2.2.2) with
              | none =>
                rw [hy7] at hp
                cases hp
              | some y7 =>
                rw [hy7] at hp
                try dsimp only at hp
                refine ck_ivB (M' := m_Tk_settles) (As := [.ref b4, .int 0]) k_Tk_go rfl rfl rfl rfl rfl rfl rfl (Nat.le_of_ble_eq_true rfl) (c_sp_Tk_settles  hy7) (fun hby7 => ?_)
                refine ck_if k_Tk_go rfl rfl rfl (fun h8 => ?_) (fun h8 => ?_)
                · skip
                  rw [if_neg (show ¬ (y7.1 = 0) from h8)] at hp
                  refine ck_p (L' := [some (.ref a), some (.ref b4), some (.int v2), some (.int v3), some (.int 0), none]) (st' := [.ref a]) k_Tk_go rfl rfl ?_
                  refine ck_p (L' := [some (.ref a), some (.ref b4), some (.int v2), some (.int v3), some (.int 0), none]) (st' := [.int 0, .ref a]) k_Tk_go rfl rfl ?_
                  refine ck_pt k_Tk_go rfl rfl rfl trivial (Nat.le_of_ble_eq_true rfl) rfl ?_
                  refine ck_p (L' := [some (.ref a), some (.ref b4), some (.int v2), some (.int v3), some (.int 0), none]) (st' := [.ref a]) k_Tk_go rfl rfl ?_
                  refine ck_p (L' := [some (.ref a), some (.ref b4), some (.int v2), some (.int v3), some (.int 0), none]) (st' := [.int 0, .ref a]) k_Tk_go rfl rfl ?_
                  refine ck_pt k_Tk_go rfl rfl rfl (Or.inl rfl) (Nat.le_of_ble_eq_true rfl) rfl ?_
                  refine ck_p (L' := [some (.ref a), some (.ref b4), some (.int v2), some (.int v3), some (.int 0), none]) (st' := [.ref a]) k_Tk_go rfl rfl ?_
                  refine ck_p (L' := [some (.ref a), some (.ref b4), some (.int v2), some (.int v3), some (.int 0), none]) (st' := [.ref b4, .ref a]) k_Tk_go rfl rfl ?_
                  cases hy9 : egR y7.2.2.2.2.1 b4 3 3 with
                  | none =>
                    rw [hy9] at hp
                    cases hp
                  | some y9 =>
                    rw [hy9] at hp
                    try dsimp only at hp
                    refine ck_gE k_Tk_go rfl rfl rfl (egR_of hy9) ?_
                    refine ck_p (L' := [some (.ref a), some (.ref b4), some (.int v2), some (.int v3), some (.int 0), none]) (st' := [.int 0, va_rf y9, .ref a]) k_Tk_go rfl rfl ?_
                    cases hy10 : tp 200 y9 0 ((upd (upd y7.2.1 7 0) 8 0), y7.2.2.1, y7.2.2.2.1, y7.2.2.2.2.1, y7.2.2.2.2.2.1, y7.2.2.2.2.2.2) with
                    | none =>
                      rw [hy10] at hp
                      cases hp
                    | some y10 =>
                      rw [hy10] at hp
                      try dsimp only at hp
                      refine ck_ivB (M' := m_Tk_perform) (As := [va_rf y9, .int 0]) k_Tk_go rfl rfl rfl rfl rfl rfl rfl (Nat.le_of_ble_eq_true rfl) (c_tp 200 _ _ _ _ _ (by omega) hy10) (fun hby10 => ?_)
                      refine ck_p (L' := [some (.ref a), some (.ref b4), some (.int v2), some (.int v3), some (.int 0), some (.int y10.1)]) (st' := []) k_Tk_go rfl rfl ?_
                      refine ck_p (L' := [some (.ref a), some (.ref b4), some (.int v2), some (.int v3), some (.int 0), some (.int y10.1)]) (st' := [.ref a]) k_Tk_go rfl rfl ?_
                      refine ck_g k_Tk_go rfl rfl rfl rfl ?_
                      refine ck_if k_Tk_go rfl rfl rfl (fun h11 => ?_) (fun h11 => ?_)
                      · skip
                        rw [if_pos (show (y10.2.1 8) = 0 from h11)] at hp
                        refine ck_p (L' := [some (.ref a), some (.ref b4), some (.int v2), some (.int v3), some (.int 0), some (.int y10.1)]) (st' := [.ref a]) k_Tk_go rfl rfl ?_
                        refine ck_p (L' := [some (.ref a), some (.ref b4), some (.int v2), some (.int v3), some (.int 0), some (.int y10.1)]) (st' := [.int y10.1, .ref a]) k_Tk_go rfl rfl ?_
                        refine ck_if k_Tk_go rfl rfl rfl (fun h12 => ?_) (fun h12 => ?_)
                        · skip
                          rw [if_neg (show ¬ (y10.1 = 0) from h12)] at hp
                          refine ck_p (L' := [some (.ref a), some (.ref b4), some (.int v2), some (.int v3), some (.int 0), some (.int y10.1)]) (st' := [.ref a, .ref a]) k_Tk_go rfl rfl ?_
                          refine ck_g k_Tk_go rfl rfl rfl rfl ?_
                          refine ck_pt k_Tk_go rfl rfl rfl trivial (Nat.le_of_ble_eq_true rfl) rfl ?_
                          refine ck_p (L' := [some (.ref a), some (.ref b4), some (.int v2), some (.int v3), some (.int 0), some (.int y10.1)]) (st' := [.ref a]) k_Tk_go rfl rfl ?_
                          refine ck_p (L' := [some (.ref a), some (.ref b4), some (.int v2), some (.int v3), some (.int 0), some (.int y10.1)]) (st' := [.ref a, .ref a]) k_Tk_go rfl rfl ?_
                          refine ck_g k_Tk_go rfl rfl rfl rfl ?_
                          refine ck_p (L' := [some (.ref a), some (.ref b4), some (.int v2), some (.int v3), some (.int 0), some (.int y10.1)]) (st' := [.ref b4, .int (y10.2.1 3), .ref a]) k_Tk_go rfl rfl ?_
                          by_cases g13 : eo y10.2.2.2.2.1 b4 3 = true
                          · rw [if_pos g13] at hp
                            cases hy14 : sp_Prog_outputBits  b4 ((upd y10.2.1 0 (y10.2.1 7)), y10.2.2.1, y10.2.2.2.1, y10.2.2.2.2.1, y10.2.2.2.2.2.1, y10.2.2.2.2.2.2) with
                            | none =>
                              rw [hy14] at hp
                              cases hp
                            | some y14 =>
                              rw [hy14] at hp
                              try dsimp only at hp
                              refine ck_ivO (M' := m_Prog_outputBits) (As := []) k_Tk_go rfl rfl rfl rfl rfl g13 rfl rfl (Nat.le_of_ble_eq_true rfl) (c_sp_Prog_outputBits  hy14) (fun hby14 => ?_)
                              refine ck_p (L' := [some (.ref a), some (.ref b4), some (.int v2), some (.int v3), some (.int 0), some (.int y10.1)]) (st' := [.int ((y10.2.1 3) &&& y14.1), .ref a]) k_Tk_go rfl rfl ?_
                              refine ck_p (L' := [some (.ref a), some (.ref b4), some (.int v2), some (.int v3), some (.int 0), some (.int y10.1)]) (st' := [.ref b4, .int ((y10.2.1 3) &&& y14.1), .ref a]) k_Tk_go rfl rfl ?_
                              cases hy15 : egI y14.2.2.2.2.1 b4 3 1 with
                              | none =>
                                rw [hy15] at hp
                                cases hp
                              | some y15 =>
                                rw [hy15] at hp
                                try dsimp only at hp
                                refine ck_gE k_Tk_go rfl rfl rfl (egI_of hy15) ?_
                                refine ck_p (L' := [some (.ref a), some (.ref b4), some (.int v2), some (.int v3), some (.int 0), some (.int y10.1)]) (st' := [.int (q_ush ((y10.2.1 3) &&& y14.1) y15), .ref a]) k_Tk_go rfl rfl ?_
                                refine ck_pt k_Tk_go rfl rfl rfl trivial (Nat.le_of_ble_eq_true rfl) rfl ?_
                                refine ck_p (L' := [some (.ref a), some (.ref b4), some (.int v2), some (.int v3), some (.int 0), some (.int y10.1)]) (st' := [.int 0]) k_Tk_go rfl rfl ?_
                                cases hp
                                exact ck_ret (v := some (.int _)) k_Tk_go rfl rfl trivial rfl ⟨rfl, rfl⟩
                          · rw [if_neg g13] at hp
                            cases hp
                        · skip
                          rw [if_pos (show y10.1 = 0 from h12)] at hp
                          refine ck_p (L' := [some (.ref a), some (.ref b4), some (.int v2), some (.int v3), some (.int 0), some (.int y10.1)]) (st' := [.int (-3), .ref a]) k_Tk_go rfl rfl ?_
                          refine ck_j k_Tk_go rfl rfl ?_
                          refine ck_pt k_Tk_go rfl rfl rfl trivial (Nat.le_of_ble_eq_true rfl) rfl ?_
                          refine ck_p (L' := [some (.ref a), some (.ref b4), some (.int v2), some (.int v3), some (.int 0), some (.int y10.1)]) (st' := [.ref a]) k_Tk_go rfl rfl ?_
                          refine ck_p (L' := [some (.ref a), some (.ref b4), some (.int v2), some (.int v3), some (.int 0), some (.int y10.1)]) (st' := [.ref a, .ref a]) k_Tk_go rfl rfl ?_
                          refine ck_g k_Tk_go rfl rfl rfl rfl ?_
                          refine ck_p (L' := [some (.ref a), some (.ref b4), some (.int v2), some (.int v3), some (.int 0), some (.int y10.1)]) (st' := [.ref b4, .int (y10.2.1 3), .ref a]) k_Tk_go rfl rfl ?_
                          by_cases g16 : eo y10.2.2.2.2.1 b4 3 = true
                          · rw [if_pos g16] at hp
                            cases hy17 : sp_Prog_outputBits  b4 ((upd y10.2.1 0 (-3)), y10.2.2.1, y10.2.2.2.1, y10.2.2.2.2.1, y10.2.2.2.2.2.1, y10.2.2.2.2.2.2) with
                            | none =>
                              rw [hy17] at hp
                              cases hp
                            | some y17 =>
                              rw [hy17] at hp
                              try dsimp only at hp
                              refine ck_ivO (M' := m_Prog_outputBits) (As := []) k_Tk_go rfl rfl rfl rfl rfl g16 rfl rfl (Nat.le_of_ble_eq_true rfl) (c_sp_Prog_outputBits  hy17) (fun hby17 => ?_)
                              refine ck_p (L' := [some (.ref a), some (.ref b4), some (.int v2), some (.int v3), some (.int 0), some (.int y10.1)]) (st' := [.int ((y10.2.1 3) &&& y17.1), .ref a]) k_Tk_go rfl rfl ?_
                              refine ck_p (L' := [some (.ref a), some (.ref b4), some (.int v2), some (.int v3), some (.int 0), some (.int y10.1)]) (st' := [.ref b4, .int ((y10.2.1 3) &&& y17.1), .ref a]) k_Tk_go rfl rfl ?_
                              cases hy18 : egI y17.2.2.2.2.1 b4 3 1 with
                              | none =>
                                rw [hy18] at hp
                                cases hp
                              | some y18 =>
                                rw [hy18] at hp
                                try dsimp only at hp
                                refine ck_gE k_Tk_go rfl rfl rfl (egI_of hy18) ?_
                                refine ck_p (L' := [some (.ref a), some (.ref b4), some (.int v2), some (.int v3), some (.int 0), some (.int y10.1)]) (st' := [.int (q_ush ((y10.2.1 3) &&& y17.1) y18), .ref a]) k_Tk_go rfl rfl ?_
                                refine ck_pt k_Tk_go rfl rfl rfl trivial (Nat.le_of_ble_eq_true rfl) rfl ?_
                                refine ck_p (L' := [some (.ref a), some (.ref b4), some (.int v2), some (.int v3), some (.int 0), some (.int y10.1)]) (st' := [.int 0]) k_Tk_go rfl rfl ?_
                                cases hp
                                exact ck_ret (v := some (.int _)) k_Tk_go rfl rfl trivial rfl ⟨rfl, rfl⟩
                          · rw [if_neg g16] at hp
                            cases hp
                      · skip
                        rw [if_neg (show ¬ ((y10.2.1 8) = 0) from h11)] at hp
                        refine ck_p (L' := [some (.ref a), some (.ref b4), some (.int v2), some (.int v3), some (.int 0), some (.int y10.1)]) (st' := [.int 2]) k_Tk_go rfl rfl ?_
                        cases hp
                        exact ck_ret (v := some (.int _)) k_Tk_go rfl rfl trivial rfl ⟨rfl, rfl⟩
                · skip
                  rw [if_pos (show y7.1 = 0 from h8)] at hp
                  refine ck_p (L' := [some (.ref a), some (.ref b4), some (.int v2), some (.int v3), some (.int 0), none]) (st' := [.int 1]) k_Tk_go rfl rfl ?_
                  cases hp
                  exact ck_ret (v := some (.int _)) k_Tk_go rfl rfl trivial rfl ⟨rfl, rfl⟩
          · rw [if_neg g5] at hp
            cases hp
      · skip
        exact absurd h3 (by decide)
    · skip
      rw [if_pos (show v2 = (-2) from h2)] at hp
      refine ck_p (L' := [some (.ref a), some (va_rf v1), some (.int v2), some (.int v3), none, none]) (st' := [.int 1]) k_Tk_go rfl rfl ?_
      refine ck_j k_Tk_go rfl rfl ?_
      refine ck_p (L' := [some (.ref a), some (va_rf v1), some (.int v2), some (.int v3), some (.int 1), none]) (st' := []) k_Tk_go rfl rfl ?_
      refine ck_p (L' := [some (.ref a), some (va_rf v1), some (.int v2), some (.int v3), some (.int 1), none]) (st' := [.ref a]) k_Tk_go rfl rfl ?_
      refine ck_p (L' := [some (.ref a), some (va_rf v1), some (.int v2), some (.int v3), some (.int 1), none]) (st' := [.int 1, .ref a]) k_Tk_go rfl rfl ?_
      refine ck_if k_Tk_go rfl rfl rfl (fun h19 => ?_) (fun h19 => ?_)
      · skip
        exact absurd h19 (by decide)
      · skip
        refine ck_p (L' := [some (.ref a), some (va_rf v1), some (.int v2), some (.int v3), some (.int 1), none]) (st' := [.int 0, .ref a]) k_Tk_go rfl rfl ?_
        refine ck_j k_Tk_go rfl rfl ?_
        refine ck_pt k_Tk_go rfl rfl rfl trivial (Nat.le_of_ble_eq_true rfl) rfl ?_
        refine ck_p (L' := [some (.ref a), some (va_rf v1), some (.int v2), some (.int v3), some (.int 1), none]) (st' := [.ref a]) k_Tk_go rfl rfl ?_
        refine ck_p (L' := [some (.ref a), some (va_rf v1), some (.int v2), some (.int v3), some (.int 1), none]) (st' := [.int v3, .ref a]) k_Tk_go rfl rfl ?_
        refine ck_pt k_Tk_go rfl rfl rfl trivial (Nat.le_of_ble_eq_true rfl) rfl ?_
        refine ck_p (L' := [some (.ref a), some (va_rf v1), some (.int v2), some (.int v3), some (.int 1), none]) (st' := [.ref a]) k_Tk_go rfl rfl ?_
        refine ck_p (L' := [some (.ref a), some (va_rf v1), some (.int v2), some (.int v3), some (.int 1), none]) (st' := [va_rf v1, .ref a]) k_Tk_go rfl (by cases v1 <;> rfl) ?_
        cases v1 with
        | none =>
          try dsimp only at hp
          cases hp
        | some b20 =>
          try dsimp only at hp
          by_cases g21 : eo σ.2.2.2.1 b20 3 = true
          · rw [if_pos g21] at hp
            cases hy22 : sp_Prog_inputBits  b20 ((upd (upd σ.1 2 0) 3 v3), σ.2.1, σ.2.2.1, σ.2.2.2.1, σ.2.2.2.2.1, σ.2.2.2.2.2) with
            | none =>
              rw [hy22] at hp
              cases hp
            | some y22 =>
              rw [hy22] at hp
              try dsimp only at hp
              refine ck_ivO (M' := m_Prog_inputBits) (As := []) k_Tk_go rfl rfl rfl rfl rfl g21 rfl rfl (Nat.le_of_ble_eq_true rfl) (c_sp_Prog_inputBits  hy22) (fun hby22 => ?_)
              refine ck_p (L' := [some (.ref a), some (.ref b20), some (.int v2), some (.int v3), some (.int 1), none]) (st' := [.int v3, .int y22.1, .ref a]) k_Tk_go rfl rfl ?_
              refine ck_p (L' := [some (.ref a), some (.ref b20), some (.int v2), some (.int v3), some (.int 1), none]) (st' := [.int (-1), .int v3, .int y22.1, .ref a]) k_Tk_go rfl rfl ?_
              refine ck_p (L' := [some (.ref a), some (.ref b20), some (.int v2), some (.int v3), some (.int 1), none]) (st' := [.int (v3 ^^^ (-1)), .int y22.1, .ref a]) k_Tk_go rfl rfl ?_
              refine ck_p (L' := [some (.ref a), some (.ref b20), some (.int v2), some (.int v3), some (.int 1), none]) (st' := [.int (y22.1 &&& (v3 ^^^ (-1))), .ref a]) k_Tk_go rfl rfl ?_
              refine ck_pt k_Tk_go rfl rfl rfl trivial (Nat.le_of_ble_eq_true rfl) rfl ?_
              refine ck_p (L' := [some (.ref a), some (.ref b20), some (.int v2), some (.int v3), some (.int 1), none]) (st' := [.ref a]) k_Tk_go rfl rfl ?_
              refine ck_p (L' := [some (.ref a), some (.ref b20), some (.int v2), some (.int v3), some (.int 1), none]) (st' := [.ref b20, .ref a]) k_Tk_go rfl rfl ?_
              refine ck_p (L' := [some (.ref a), some (.ref b20), some (.int v2), some (.int v3), some (.int 1), none]) (st' := [.int 1, .ref b20, .ref a]) k_Tk_go rfl rfl ?_
              cases hy23 : sp_Tk_settles  (some b20) 1 ((upd y22.2.1 4 (y22.1 &&& (v3 ^^^ (-1)))), y22.2.2.1, y22.2.2.2.1, y22.2.2.2.2.1, y22.2.2.2.2.2.1, y22.2.2.2.2.2.2) with
              | none =>
                rw [hy23] at hp
                cases hp
              | some y23 =>
                rw [hy23] at hp
                try dsimp only at hp
                refine ck_ivB (M' := m_Tk_settles) (As := [.ref b20, .int 1]) k_Tk_go rfl rfl rfl rfl rfl rfl rfl (Nat.le_of_ble_eq_true rfl) (c_sp_Tk_settles  hy23) (fun hby23 => ?_)
                refine ck_if k_Tk_go rfl rfl rfl (fun h24 => ?_) (fun h24 => ?_)
                · skip
                  rw [if_neg (show ¬ (y23.1 = 0) from h24)] at hp
                  refine ck_p (L' := [some (.ref a), some (.ref b20), some (.int v2), some (.int v3), some (.int 1), none]) (st' := [.ref a]) k_Tk_go rfl rfl ?_
                  refine ck_p (L' := [some (.ref a), some (.ref b20), some (.int v2), some (.int v3), some (.int 1), none]) (st' := [.int 0, .ref a]) k_Tk_go rfl rfl ?_
                  refine ck_pt k_Tk_go rfl rfl rfl trivial (Nat.le_of_ble_eq_true rfl) rfl ?_
                  refine ck_p (L' := [some (.ref a), some (.ref b20), some (.int v2), some (.int v3), some (.int 1), none]) (st' := [.ref a]) k_Tk_go rfl rfl ?_
                  refine ck_p (L' := [some (.ref a), some (.ref b20), some (.int v2), some (.int v3), some (.int 1), none]) (st' := [.int 0, .ref a]) k_Tk_go rfl rfl ?_
                  refine ck_pt k_Tk_go rfl rfl rfl (Or.inl rfl) (Nat.le_of_ble_eq_true rfl) rfl ?_
                  refine ck_p (L' := [some (.ref a), some (.ref b20), some (.int v2), some (.int v3), some (.int 1), none]) (st' := [.ref a]) k_Tk_go rfl rfl ?_
                  refine ck_p (L' := [some (.ref a), some (.ref b20), some (.int v2), some (.int v3), some (.int 1), none]) (st' := [.ref b20, .ref a]) k_Tk_go rfl rfl ?_
                  cases hy25 : egR y23.2.2.2.2.1 b20 3 3 with
                  | none =>
                    rw [hy25] at hp
                    cases hp
                  | some y25 =>
                    rw [hy25] at hp
                    try dsimp only at hp
                    refine ck_gE k_Tk_go rfl rfl rfl (egR_of hy25) ?_
                    refine ck_p (L' := [some (.ref a), some (.ref b20), some (.int v2), some (.int v3), some (.int 1), none]) (st' := [.int 1, va_rf y25, .ref a]) k_Tk_go rfl rfl ?_
                    cases hy26 : tp 200 y25 1 ((upd (upd y23.2.1 7 0) 8 0), y23.2.2.1, y23.2.2.2.1, y23.2.2.2.2.1, y23.2.2.2.2.2.1, y23.2.2.2.2.2.2) with
                    | none =>
                      rw [hy26] at hp
                      cases hp
                    | some y26 =>
                      rw [hy26] at hp
                      try dsimp only at hp
                      refine ck_ivB (M' := m_Tk_perform) (As := [va_rf y25, .int 1]) k_Tk_go rfl rfl rfl rfl rfl rfl rfl (Nat.le_of_ble_eq_true rfl) (c_tp 200 _ _ _ _ _ (by omega) hy26) (fun hby26 => ?_)
                      refine ck_p (L' := [some (.ref a), some (.ref b20), some (.int v2), some (.int v3), some (.int 1), some (.int y26.1)]) (st' := []) k_Tk_go rfl rfl ?_
                      refine ck_p (L' := [some (.ref a), some (.ref b20), some (.int v2), some (.int v3), some (.int 1), some (.int y26.1)]) (st' := [.ref a]) k_Tk_go rfl rfl ?_
                      refine ck_g k_Tk_go rfl rfl rfl rfl ?_
                      refine ck_if k_Tk_go rfl rfl rfl (fun h27 => ?_) (fun h27 => ?_)
                      · skip
                        rw [if_pos (show (y26.2.1 8) = 0 from h27)] at hp
                        refine ck_p (L' := [some (.ref a), some (.ref b20), some (.int v2), some (.int v3), some (.int 1), some (.int y26.1)]) (st' := [.ref a]) k_Tk_go rfl rfl ?_
                        refine ck_p (L' := [some (.ref a), some (.ref b20), some (.int v2), some (.int v3), some (.int 1), some (.int y26.1)]) (st' := [.int y26.1, .ref a]) k_Tk_go rfl rfl ?_
                        refine ck_if k_Tk_go rfl rfl rfl (fun h28 => ?_) (fun h28 => ?_)
                        · skip
                          rw [if_neg (show ¬ (y26.1 = 0) from h28)] at hp
                          refine ck_p (L' := [some (.ref a), some (.ref b20), some (.int v2), some (.int v3), some (.int 1), some (.int y26.1)]) (st' := [.ref a, .ref a]) k_Tk_go rfl rfl ?_
                          refine ck_g k_Tk_go rfl rfl rfl rfl ?_
                          refine ck_pt k_Tk_go rfl rfl rfl trivial (Nat.le_of_ble_eq_true rfl) rfl ?_
                          refine ck_p (L' := [some (.ref a), some (.ref b20), some (.int v2), some (.int v3), some (.int 1), some (.int y26.1)]) (st' := [.ref a]) k_Tk_go rfl rfl ?_
                          refine ck_p (L' := [some (.ref a), some (.ref b20), some (.int v2), some (.int v3), some (.int 1), some (.int y26.1)]) (st' := [.ref a, .ref a]) k_Tk_go rfl rfl ?_
                          refine ck_g k_Tk_go rfl rfl rfl rfl ?_
                          refine ck_p (L' := [some (.ref a), some (.ref b20), some (.int v2), some (.int v3), some (.int 1), some (.int y26.1)]) (st' := [.ref b20, .int (y26.2.1 3), .ref a]) k_Tk_go rfl rfl ?_
                          by_cases g29 : eo y26.2.2.2.2.1 b20 3 = true
                          · rw [if_pos g29] at hp
                            cases hy30 : sp_Prog_outputBits  b20 ((upd y26.2.1 0 (y26.2.1 7)), y26.2.2.1, y26.2.2.2.1, y26.2.2.2.2.1, y26.2.2.2.2.2.1, y26.2.2.2.2.2.2) with
                            | none =>
                              rw [hy30] at hp
                              cases hp
                            | some y30 =>
                              rw [hy30] at hp
                              try dsimp only at hp
                              refine ck_ivO (M' := m_Prog_outputBits) (As := []) k_Tk_go rfl rfl rfl rfl rfl g29 rfl rfl (Nat.le_of_ble_eq_true rfl) (c_sp_Prog_outputBits  hy30) (fun hby30 => ?_)
                              refine ck_p (L' := [some (.ref a), some (.ref b20), some (.int v2), some (.int v3), some (.int 1), some (.int y26.1)]) (st' := [.int ((y26.2.1 3) &&& y30.1), .ref a]) k_Tk_go rfl rfl ?_
                              refine ck_p (L' := [some (.ref a), some (.ref b20), some (.int v2), some (.int v3), some (.int 1), some (.int y26.1)]) (st' := [.ref b20, .int ((y26.2.1 3) &&& y30.1), .ref a]) k_Tk_go rfl rfl ?_
                              cases hy31 : egI y30.2.2.2.2.1 b20 3 1 with
                              | none =>
                                rw [hy31] at hp
                                cases hp
                              | some y31 =>
                                rw [hy31] at hp
                                try dsimp only at hp
                                refine ck_gE k_Tk_go rfl rfl rfl (egI_of hy31) ?_
                                refine ck_p (L' := [some (.ref a), some (.ref b20), some (.int v2), some (.int v3), some (.int 1), some (.int y26.1)]) (st' := [.int (q_ush ((y26.2.1 3) &&& y30.1) y31), .ref a]) k_Tk_go rfl rfl ?_
                                refine ck_pt k_Tk_go rfl rfl rfl trivial (Nat.le_of_ble_eq_true rfl) rfl ?_
                                refine ck_p (L' := [some (.ref a), some (.ref b20), some (.int v2), some (.int v3), some (.int 1), some (.int y26.1)]) (st' := [.int 0]) k_Tk_go rfl rfl ?_
                                cases hp
                                exact ck_ret (v := some (.int _)) k_Tk_go rfl rfl trivial rfl ⟨rfl, rfl⟩
                          · rw [if_neg g29] at hp
                            cases hp
                        · skip
                          rw [if_pos (show y26.1 = 0 from h28)] at hp
                          refine ck_p (L' := [some (.ref a), some (.ref b20), some (.int v2), some (.int v3), some (.int 1), some (.int y26.1)]) (st' := [.int (-3), .ref a]) k_Tk_go rfl rfl ?_
                          refine ck_j k_Tk_go rfl rfl ?_
                          refine ck_pt k_Tk_go rfl rfl rfl trivial (Nat.le_of_ble_eq_true rfl) rfl ?_
                          refine ck_p (L' := [some (.ref a), some (.ref b20), some (.int v2), some (.int v3), some (.int 1), some (.int y26.1)]) (st' := [.ref a]) k_Tk_go rfl rfl ?_
                          refine ck_p (L' := [some (.ref a), some (.ref b20), some (.int v2), some (.int v3), some (.int 1), some (.int y26.1)]) (st' := [.ref a, .ref a]) k_Tk_go rfl rfl ?_
                          refine ck_g k_Tk_go rfl rfl rfl rfl ?_
                          refine ck_p (L' := [some (.ref a), some (.ref b20), some (.int v2), some (.int v3), some (.int 1), some (.int y26.1)]) (st' := [.ref b20, .int (y26.2.1 3), .ref a]) k_Tk_go rfl rfl ?_
                          by_cases g32 : eo y26.2.2.2.2.1 b20 3 = true
                          · rw [if_pos g32] at hp
                            cases hy33 : sp_Prog_outputBits  b20 ((upd y26.2.1 0 (-3)), y26.2.2.1, y26.2.2.2.1, y26.2.2.2.2.1, y26.2.2.2.2.2.1, y26.2.2.2.2.2.2) with
                            | none =>
                              rw [hy33] at hp
                              cases hp
                            | some y33 =>
                              rw [hy33] at hp
                              try dsimp only at hp
                              refine ck_ivO (M' := m_Prog_outputBits) (As := []) k_Tk_go rfl rfl rfl rfl rfl g32 rfl rfl (Nat.le_of_ble_eq_true rfl) (c_sp_Prog_outputBits  hy33) (fun hby33 => ?_)
                              refine ck_p (L' := [some (.ref a), some (.ref b20), some (.int v2), some (.int v3), some (.int 1), some (.int y26.1)]) (st' := [.int ((y26.2.1 3) &&& y33.1), .ref a]) k_Tk_go rfl rfl ?_
                              refine ck_p (L' := [some (.ref a), some (.ref b20), some (.int v2), some (.int v3), some (.int 1), some (.int y26.1)]) (st' := [.ref b20, .int ((y26.2.1 3) &&& y33.1), .ref a]) k_Tk_go rfl rfl ?_
                              cases hy34 : egI y33.2.2.2.2.1 b20 3 1 with
                              | none =>
                                rw [hy34] at hp
                                cases hp
                              | some y34 =>
                                rw [hy34] at hp
                                try dsimp only at hp
                                refine ck_gE k_Tk_go rfl rfl rfl (egI_of hy34) ?_
                                refine ck_p (L' := [some (.ref a), some (.ref b20), some (.int v2), some (.int v3), some (.int 1), some (.int y26.1)]) (st' := [.int (q_ush ((y26.2.1 3) &&& y33.1) y34), .ref a]) k_Tk_go rfl rfl ?_
                                refine ck_pt k_Tk_go rfl rfl rfl trivial (Nat.le_of_ble_eq_true rfl) rfl ?_
                                refine ck_p (L' := [some (.ref a), some (.ref b20), some (.int v2), some (.int v3), some (.int 1), some (.int y26.1)]) (st' := [.int 0]) k_Tk_go rfl rfl ?_
                                cases hp
                                exact ck_ret (v := some (.int _)) k_Tk_go rfl rfl trivial rfl ⟨rfl, rfl⟩
                          · rw [if_neg g32] at hp
                            cases hp
                      · skip
                        rw [if_neg (show ¬ ((y26.2.1 8) = 0) from h27)] at hp
                        refine ck_p (L' := [some (.ref a), some (.ref b20), some (.int v2), some (.int v3), some (.int 1), some (.int y26.1)]) (st' := [.int 2]) k_Tk_go rfl rfl ?_
                        cases hp
                        exact ck_ret (v := some (.int _)) k_Tk_go rfl rfl trivial rfl ⟨rfl, rfl⟩
                · skip
                  rw [if_pos (show y23.1 = 0 from h24)] at hp
                  refine ck_p (L' := [some (.ref a), some (.ref b20), some (.int v2), some (.int v3), some (.int 1), none]) (st' := [.int 1]) k_Tk_go rfl rfl ?_
                  cases hp
                  exact ck_ret (v := some (.int _)) k_Tk_go rfl rfl trivial rfl ⟨rfl, rfl⟩
          · rw [if_neg g21] at hp
            cases hp
  · skip
    rw [if_pos (show v2 = (-3) from h1)] at hp
    refine ck_p (L' := [some (.ref a), some (va_rf v1), some (.int v2), some (.int v3), none, none]) (st' := [.ref a]) k_Tk_go rfl rfl ?_
    refine ck_p (L' := [some (.ref a), some (va_rf v1), some (.int v2), some (.int v3), none, none]) (st' := [.int (-3), .ref a]) k_Tk_go rfl rfl ?_
    refine ck_pt k_Tk_go rfl rfl rfl trivial (Nat.le_of_ble_eq_true rfl) rfl ?_
    refine ck_p (L' := [some (.ref a), some (va_rf v1), some (.int v2), some (.int v3), none, none]) (st' := [.ref a]) k_Tk_go rfl rfl ?_
    refine ck_p (L' := [some (.ref a), some (va_rf v1), some (.int v2), some (.int v3), none, none]) (st' := [.int 0, .ref a]) k_Tk_go rfl rfl ?_
    refine ck_pt k_Tk_go rfl rfl rfl trivial (Nat.le_of_ble_eq_true rfl) rfl ?_
    refine ck_p (L' := [some (.ref a), some (va_rf v1), some (.int v2), some (.int v3), none, none]) (st' := [.int 0]) k_Tk_go rfl rfl ?_
    cases hp
    exact ck_ret (v := some (.int _)) k_Tk_go rfl rfl trivial rfl ⟨rfl, rfl⟩
end TK1
