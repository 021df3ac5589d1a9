/-! what the reference's MUST and CAN say, over its arrays (20 op, 21 letter, 22 number, 23 kid, 24 beside, 25 within), what stands, what is known; none: out of an array or of fuel -/
def gi (x : Int32) (n : Nat) : Bool := !(decide (x < 0)) && Nat.blt x.toNatClampNeg n
theorem gi_in {x : Int32} {n : Nat} (h : gi x n = true) : vp_in x n := by
  simp only [gi, Bool.and_eq_true, Bool.not_eq_true', decide_eq_false_iff_not] at h
  intro q
  rcases q with q | q
  · exact h.1 q
  · have : x.toNatClampNeg + 1 ≤ n := Nat.le_of_ble_eq_true h.2
    omega
def q_low (x : Int32) : Int32 := x &&& 1 ||| x >>> ((2 : Int32) &&& 31) &&& 1 ||| x &&& 2 ||| (x >>> ((3 : Int32) &&& 31)) <<< ((2 : Int32) &&& 31)
def q_gr (x y : Int32) : Int32 := if x = 0 then 0 else if y = 0 then 0 else (x ||| y) &&& -(if y &&& -y < x &&& -x then x &&& -x else y &&& -y)
def q_hasS (x : Int64) (l : Int32) : Int32 := if (x >>> ((32 + l).toInt64 &&& 63)) &&& 1 = 1 then 1 else 0
def q_hasC (x : Int64) (c : Int32) : Int32 := if (x >>> (c.toInt64 &&& 63)) &&& 1 = 1 then 1 else 0
def q_wo (x : Int64) (l : Int32) : Int64 := x &&& ((1 <<< ((32 + l).toInt64 &&& 63)) ^^^ (-1))
def q_join (x : Int64) (c : Int32) : Int64 := x >>> ((32 : Int32).toInt64 &&& 63) <<< ((32 : Int32).toInt64 &&& 63) ||| (c.toInt64 &&& 4294967295)
def q_behind (x y : Int64) : Int64 := q_join (x ||| y) (x.toInt32 &&& (-2) ||| y.toInt32)
def q_beside (x y : Int64) : Int64 := q_join (x ||| y) (q_gr x.toInt32 y.toInt32)
abbrev mw_A : Type := Nat → Nat → Int32
def mw_ch (T : mw_A) (S p status : Int32) : Option Int32 := if gi p 2600 = true then
    (if status = 0 then (if gi (T 23 p.toNatClampNeg) 2600 = true then (if T 25 (T 23 p.toNatClampNeg).toNatClampNeg &&& S = 0 then some (T 24 (T 23 p.toNatClampNeg).toNatClampNeg) else some (T 23 p.toNatClampNeg)) else none)
    else if status = 1 then some (T 23 p.toNatClampNeg) else (if gi (T 23 p.toNatClampNeg) 2600 = true then some (T 24 (T 23 p.toNatClampNeg).toNatClampNeg) else none)) else none
def mw_fo (T : mw_A) (S res : Int32) : Nat → Int32 → Option Int32
  | 0, _ => none
  | n + 1, k => if res = 0 then some k else if gi k 2600 = true then (if T 25 k.toNatClampNeg &&& S = 0 then mw_fo T S res n (T 24 k.toNatClampNeg) else some k) else none
def mw_sq (f : Int32 → Option Int64) (T : mw_A) : Nat → Int32 → Int64 → Option Int64
  | 0, _, _ => none
  | n + 1, k, all => if k = -1 then some all else if q_hasC all 0 = 0 then some all else match f k with
    | none => none
    | some m => if gi k 2600 = true then mw_sq f T n (T 24 k.toNatClampNeg) (q_behind all m) else none
def mw_pl (f : Int32 → Option Int64) (T : mw_A) (S res : Int32) : Nat → Int32 → Int64 → Option Int64
  | 0, _, _ => none
  | n + 1, k, all => if k = -1 then some all else match (if res = 0 then f k else if gi k 2600 = true then (if T 25 k.toNatClampNeg &&& S = 0 then some 1 else f k) else none) with
    | none => none
    | some m => if gi k 2600 = true then mw_pl f T S res n (T 24 k.toNatClampNeg) (q_beside all m) else none
section MD2
variable {l : Launch} {F : gx_F} {d : Nat} {a : Nat} {A : Nat → Nat} {σ : gm_S}
theorem c_Md_hasCode (x : Int64) (y : Int32) (h : gx_H) : gx_Has l F d m_Md_hasCode [.long x, .int y] h (fun v h' => v = some (.int (q_hasC x y)) ∧ h' = h) := by
  refine gx_meth (k := 0) (L := [some (.long x), none, some (.int y)]) pn_Md rfl (Nat.le_of_ble_eq_true rfl) ?_
  repeat' (first | refine gx_p k_Md_hasCode rfl rfl ?_ | refine gx_j k_Md_hasCode rfl rfl ?_ | refine gx_ic k_Md_hasCode rfl rfl rfl (fun hc => ?_) (fun hc => ?_) | refine gx_if k_Md_hasCode rfl rfl rfl (fun hc => ?_) (fun hc => ?_) | refine gx_l2w k_Md_hasCode rfl rfl ?_)
  all_goals refine gx_ret (v := some (.int _)) k_Md_hasCode rfl rfl (by first | exact Or.inl rfl | exact Or.inr rfl) rfl ⟨_, rfl, ?_, rfl⟩
  all_goals (rw [gx_cmp0] at hc; simp [q_hasC, hc])
theorem c_Md_join (x : Int64) (y : Int32) (h : gx_H) : gx_Has l F (d + 1) m_Md_join [.long x, .int y] h (fun v h' => v = some (.long (q_join x y)) ∧ h' = h) := by
  refine gx_meth (k := 0) (L := [some (.long x), none, some (.int y)]) pn_Md rfl (Nat.le_of_ble_eq_true rfl) ?_
  repeat' (first | refine gx_p k_Md_join rfl rfl ?_ | refine gx_j k_Md_join rfl rfl ?_ | refine gx_ic k_Md_join rfl rfl rfl (fun hc => ?_) (fun hc => ?_) | refine gx_if k_Md_join rfl rfl rfl (fun hc => ?_) (fun hc => ?_) | refine gx_l2w k_Md_join rfl rfl ?_)
  refine gx_is (M' := m_Md_signalsOf) (As := [.long x]) (rest := []) k_Md_join rfl rfl rfl rfl rfl rfl (Nat.le_of_ble_eq_true rfl) (c_Md_signalsOf x _) (fun v h' _ hp => ?_)
  obtain ⟨rfl, rfl⟩ := hp
  simp only [Option.toList_some, List.singleton_append]
  repeat' (first | refine gx_p k_Md_join rfl rfl ?_ | refine gx_j k_Md_join rfl rfl ?_ | refine gx_ic k_Md_join rfl rfl rfl (fun hc => ?_) (fun hc => ?_) | refine gx_if k_Md_join rfl rfl rfl (fun hc => ?_) (fun hc => ?_) | refine gx_l2w k_Md_join rfl rfl ?_)
  exact gx_ret (v := some (.long _)) k_Md_join rfl rfl trivial rfl ⟨_, rfl, rfl, rfl⟩
theorem c_Md_behind (x y : Int64) (h : gx_H) : gx_Has l F (d + 2) m_Md_behind [.long x, .long y] h (fun v h' => v = some (.long (q_behind x y)) ∧ h' = h) := by
  refine gx_meth (k := 0) (L := [some (.long x), none, some (.long y), none]) pn_Md rfl (Nat.le_of_ble_eq_true rfl) ?_
  repeat' (first | refine gx_p k_Md_behind rfl rfl ?_ | refine gx_j k_Md_behind rfl rfl ?_ | refine gx_ic k_Md_behind rfl rfl rfl (fun hc => ?_) (fun hc => ?_) | refine gx_if k_Md_behind rfl rfl rfl (fun hc => ?_) (fun hc => ?_) | refine gx_l2w k_Md_behind rfl rfl ?_)
  refine gx_is (M' := m_Md_codesOf) (As := [.long x]) (rest := [.long (x ||| y)]) k_Md_behind rfl rfl rfl rfl rfl rfl (Nat.le_of_ble_eq_true rfl) (c_Md_codesOf x _) (fun v h' _ hp => ?_)
  obtain ⟨rfl, rfl⟩ := hp
  simp only [Option.toList_some, List.singleton_append]
  repeat' (first | refine gx_p k_Md_behind rfl rfl ?_ | refine gx_j k_Md_behind rfl rfl ?_ | refine gx_ic k_Md_behind rfl rfl rfl (fun hc => ?_) (fun hc => ?_) | refine gx_if k_Md_behind rfl rfl rfl (fun hc => ?_) (fun hc => ?_) | refine gx_l2w k_Md_behind rfl rfl ?_)
  refine gx_is (M' := m_Md_codesOf) (As := [.long y]) (rest := [.int (x.toInt32 &&& (-2)), .long (x ||| y)]) k_Md_behind rfl rfl rfl rfl rfl rfl (Nat.le_of_ble_eq_true rfl) (c_Md_codesOf y _) (fun v h' _ hp => ?_)
  obtain ⟨rfl, rfl⟩ := hp
  simp only [Option.toList_some, List.singleton_append]
  repeat' (first | refine gx_p k_Md_behind rfl rfl ?_ | refine gx_j k_Md_behind rfl rfl ?_ | refine gx_ic k_Md_behind rfl rfl rfl (fun hc => ?_) (fun hc => ?_) | refine gx_if k_Md_behind rfl rfl rfl (fun hc => ?_) (fun hc => ?_) | refine gx_l2w k_Md_behind rfl rfl ?_)
  refine gx_is (M' := m_Md_join) (As := [.long (x ||| y), .int (x.toInt32 &&& (-2) ||| y.toInt32)]) (rest := []) k_Md_behind rfl rfl rfl rfl rfl rfl (Nat.le_of_ble_eq_true rfl) (c_Md_join _ _ _) (fun v h' _ hp => ?_)
  obtain ⟨rfl, rfl⟩ := hp
  simp only [Option.toList_some, List.singleton_append]
  exact gx_ret (v := some (.long _)) k_Md_behind rfl rfl trivial rfl ⟨_, rfl, rfl, rfl⟩
theorem c_Md_beside (x y : Int64) (h : gx_H) : gx_Has l F (d + 2) m_Md_beside [.long x, .long y] h (fun v h' => v = some (.long (q_beside x y)) ∧ h' = h) := by
  refine gx_meth (k := 0) (L := [some (.long x), none, some (.long y), none]) pn_Md rfl (Nat.le_of_ble_eq_true rfl) ?_
  repeat' (first | refine gx_p k_Md_beside rfl rfl ?_ | refine gx_j k_Md_beside rfl rfl ?_ | refine gx_ic k_Md_beside rfl rfl rfl (fun hc => ?_) (fun hc => ?_) | refine gx_if k_Md_beside rfl rfl rfl (fun hc => ?_) (fun hc => ?_) | refine gx_l2w k_Md_beside rfl rfl ?_)
  refine gx_is (M' := m_Md_codesOf) (As := [.long x]) (rest := [.long (x ||| y)]) k_Md_beside rfl rfl rfl rfl rfl rfl (Nat.le_of_ble_eq_true rfl) (c_Md_codesOf x _) (fun v h' _ hp => ?_)
  obtain ⟨rfl, rfl⟩ := hp
  simp only [Option.toList_some, List.singleton_append]
  repeat' (first | refine gx_p k_Md_beside rfl rfl ?_ | refine gx_j k_Md_beside rfl rfl ?_ | refine gx_ic k_Md_beside rfl rfl rfl (fun hc => ?_) (fun hc => ?_) | refine gx_if k_Md_beside rfl rfl rfl (fun hc => ?_) (fun hc => ?_) | refine gx_l2w k_Md_beside rfl rfl ?_)
  refine gx_is (M' := m_Md_codesOf) (As := [.long y]) (rest := [.int x.toInt32, .long (x ||| y)]) k_Md_beside rfl rfl rfl rfl rfl rfl (Nat.le_of_ble_eq_true rfl) (c_Md_codesOf y _) (fun v h' _ hp => ?_)
  obtain ⟨rfl, rfl⟩ := hp
  simp only [Option.toList_some, List.singleton_append]
  refine gx_is (M' := m_Md_greater) (As := [.int x.toInt32, .int y.toInt32]) (rest := [.long (x ||| y)]) k_Md_beside rfl rfl rfl rfl rfl rfl (Nat.le_of_ble_eq_true rfl) (c_Md_greater _ _ _) (fun v h' _ hp => ?_)
  obtain ⟨rfl, rfl⟩ := hp
  simp only [Option.toList_some, List.singleton_append]
  refine gx_is (M' := m_Md_join) (As := [.long (x ||| y), .int (q_gr x.toInt32 y.toInt32)]) (rest := []) k_Md_beside rfl rfl rfl rfl rfl rfl (Nat.le_of_ble_eq_true rfl) (c_Md_join _ _ _) (fun v h' _ hp => ?_)
  obtain ⟨rfl, rfl⟩ := hp
  simp only [Option.toList_some, List.singleton_append]
  exact gx_ret (v := some (.long _)) k_Md_beside rfl rfl trivial rfl ⟨_, rfl, rfl, rfl⟩
theorem c_Md_isWithin {p : Int32} (hp : gi p 2600 = true) : gm_Has l F d m_Md_isWithin a A [.int p] σ (fun v σ' => v = some (.int (if σ.2 25 p.toNatClampNeg &&& σ.1 39 = 0 then 0 else 1)) ∧ σ' = σ) := by
  refine gm_meth (k := 0) (L := [some (.ref a), some (.int p)]) pn_Md rfl (Nat.le_of_ble_eq_true rfl) ?_
  repeat' (first | refine gm_p k_Md_isWithin rfl rfl ?_ | refine gm_g k_Md_isWithin rfl rfl rfl rfl ?_ | refine gm_j k_Md_isWithin rfl rfl ?_ | refine gm_pt k_Md_isWithin rfl rfl rfl trivial (by decide) rfl ?_ | refine gm_ic k_Md_isWithin rfl rfl rfl (fun hc => ?_) (fun hc => ?_) | refine gm_if k_Md_isWithin rfl rfl rfl (fun hc => ?_) (fun hc => ?_) | refine gm_ld k_Md_isWithin rfl rfl ?_ (by decide) ?_ | refine gm_sto k_Md_isWithin rfl rfl ?_ (by decide) ?_)
  · exact gi_in hp
  all_goals refine gm_ret (v := some (.int _)) k_Md_isWithin rfl rfl (by first | exact Or.inl rfl | exact Or.inr rfl) rfl ⟨?_, rfl⟩
  all_goals simp [hc]
theorem c_Md_chosen {p s q : Int32} (hp : mw_ch σ.2 (σ.1 39) p s = some q) : gm_Has l F (d + 1) m_Md_chosen a A [.int p, .int s] σ (fun v σ' => v = some (.int q) ∧ σ' = σ) := by
  refine gm_meth (k := 1) (L := [some (.ref a), some (.int p), some (.int s), none]) pn_Md rfl (Nat.le_of_ble_eq_true rfl) ?_
  unfold mw_ch at hp
  (repeat' split at hp) <;> cases hp
  · next h1 h2 h3 h4 =>
    refine gm_p k_Md_chosen rfl rfl ?_
    refine gm_g k_Md_chosen rfl rfl rfl rfl ?_
    refine gm_p k_Md_chosen rfl rfl ?_
    refine gm_ld k_Md_chosen rfl rfl (gi_in (by assumption)) (by decide) ?_
    refine gm_p k_Md_chosen rfl rfl ?_
    refine gm_p k_Md_chosen rfl rfl ?_
    refine gm_if k_Md_chosen rfl rfl rfl (fun hc8 => ?_) (fun hc8 => ?_)
    · (try dsimp only at hc8)
      (exfalso; simp_all; done)
    · (try dsimp only at hc8)
      refine gm_p k_Md_chosen rfl rfl ?_
      refine gm_p k_Md_chosen rfl rfl ?_
      refine gm_ivE (M' := m_Md_isWithin) (As := [.int _]) k_Md_chosen rfl rfl rfl rfl rfl rfl (Nat.le_of_ble_eq_true rfl) (c_Md_isWithin (by assumption)) ?_
      refine gm_if k_Md_chosen rfl rfl rfl (fun hc16 => ?_) (fun hc16 => ?_)
      · (try dsimp only at hc16)
        refine gm_p k_Md_chosen rfl rfl ?_
        refine gm_g k_Md_chosen rfl rfl rfl rfl ?_
        refine gm_p k_Md_chosen rfl rfl ?_
        refine gm_ld k_Md_chosen rfl rfl (gi_in (by assumption)) (by decide) ?_
        refine gm_ret (v := some (.int _)) k_Md_chosen rfl rfl trivial rfl ⟨?_, rfl⟩; simp_all
      · (try dsimp only at hc16)
        (exfalso; simp_all; done)
  · next h1 h2 h3 h4 =>
    refine gm_p k_Md_chosen rfl rfl ?_
    refine gm_g k_Md_chosen rfl rfl rfl rfl ?_
    refine gm_p k_Md_chosen rfl rfl ?_
    refine gm_ld k_Md_chosen rfl rfl (gi_in (by assumption)) (by decide) ?_
    refine gm_p k_Md_chosen rfl rfl ?_
    refine gm_p k_Md_chosen rfl rfl ?_
    refine gm_if k_Md_chosen rfl rfl rfl (fun hc8 => ?_) (fun hc8 => ?_)
    · (try dsimp only at hc8)
      (exfalso; simp_all; done)
    · (try dsimp only at hc8)
      refine gm_p k_Md_chosen rfl rfl ?_
      refine gm_p k_Md_chosen rfl rfl ?_
      refine gm_ivE (M' := m_Md_isWithin) (As := [.int _]) k_Md_chosen rfl rfl rfl rfl rfl rfl (Nat.le_of_ble_eq_true rfl) (c_Md_isWithin (by assumption)) ?_
      refine gm_if k_Md_chosen rfl rfl rfl (fun hc16 => ?_) (fun hc16 => ?_)
      · (try dsimp only at hc16)
        (exfalso; simp_all; done)
      · (try dsimp only at hc16)
        refine gm_p k_Md_chosen rfl rfl ?_
        refine gm_j k_Md_chosen rfl rfl ?_
        refine gm_ret (v := some (.int _)) k_Md_chosen rfl rfl trivial rfl ⟨?_, rfl⟩; simp_all
  · next h1 h2 h3 =>
    refine gm_p k_Md_chosen rfl rfl ?_
    refine gm_g k_Md_chosen rfl rfl rfl rfl ?_
    refine gm_p k_Md_chosen rfl rfl ?_
    refine gm_ld k_Md_chosen rfl rfl (gi_in (by assumption)) (by decide) ?_
    refine gm_p k_Md_chosen rfl rfl ?_
    refine gm_p k_Md_chosen rfl rfl ?_
    refine gm_if k_Md_chosen rfl rfl rfl (fun hc8 => ?_) (fun hc8 => ?_)
    · (try dsimp only at hc8)
      refine gm_p k_Md_chosen rfl rfl ?_
      refine gm_p k_Md_chosen rfl rfl ?_
      refine gm_ic k_Md_chosen rfl rfl rfl (fun hc32 => ?_) (fun hc32 => ?_)
      · (try dsimp only at hc32)
        (exfalso; simp_all; done)
      · (try dsimp only at hc32)
        refine gm_p k_Md_chosen rfl rfl ?_
        refine gm_j k_Md_chosen rfl rfl ?_
        refine gm_ret (v := some (.int _)) k_Md_chosen rfl rfl trivial rfl ⟨?_, rfl⟩; simp_all
    · (try dsimp only at hc8)
      (exfalso; simp_all; done)
  · next h1 h2 h3 h4 =>
    refine gm_p k_Md_chosen rfl rfl ?_
    refine gm_g k_Md_chosen rfl rfl rfl rfl ?_
    refine gm_p k_Md_chosen rfl rfl ?_
    refine gm_ld k_Md_chosen rfl rfl (gi_in (by assumption)) (by decide) ?_
    refine gm_p k_Md_chosen rfl rfl ?_
    refine gm_p k_Md_chosen rfl rfl ?_
    refine gm_if k_Md_chosen rfl rfl rfl (fun hc8 => ?_) (fun hc8 => ?_)
    · (try dsimp only at hc8)
      refine gm_p k_Md_chosen rfl rfl ?_
      refine gm_p k_Md_chosen rfl rfl ?_
      refine gm_ic k_Md_chosen rfl rfl rfl (fun hc32 => ?_) (fun hc32 => ?_)
      · (try dsimp only at hc32)
        refine gm_p k_Md_chosen rfl rfl ?_
        refine gm_g k_Md_chosen rfl rfl rfl rfl ?_
        refine gm_p k_Md_chosen rfl rfl ?_
        refine gm_ld k_Md_chosen rfl rfl (gi_in (by assumption)) (by decide) ?_
        refine gm_ret (v := some (.int _)) k_Md_chosen rfl rfl trivial rfl ⟨?_, rfl⟩; simp_all
      · (try dsimp only at hc32)
        (exfalso; simp_all; done)
    · (try dsimp only at hc8)
      (exfalso; simp_all; done)
theorem c_Md_firstOf {p res q : Int32} {n : Nat} (hg : gi p 2600 = true) (hp : mw_fo σ.2 (σ.1 39) res n (σ.2 23 p.toNatClampNeg) = some q) : gm_Has l F (d + 1) m_Md_firstOf a A [.int p, .int res] σ (fun v σ' => v = some (.int q) ∧ σ' = σ) := by
  refine gm_meth (k := 1) (L := [some (.ref a), some (.int p), some (.int res), none]) pn_Md rfl (Nat.le_of_ble_eq_true rfl) ?_
  have loop : ∀ (n : Nat) (k : Int32), mw_fo σ.2 (σ.1 39) res n k = some q → gm_Go l F (d + 1) m_Md_firstOf a A 7 [some (.ref a), some (.int p), some (.int res), some (.int k)] [] σ (fun v σ' => v = some (.int q) ∧ σ' = σ) := by
    intro n
    induction n with
    | zero => intro k hk; cases hk
    | succ n ih =>
      intro k hk
      unfold mw_fo at hk
      split at hk
      · cases hk
        refine gm_p k_Md_firstOf rfl rfl ?_
        refine gm_if k_Md_firstOf rfl rfl rfl (fun hc8 => ?_) (fun hc8 => ?_)
        · (try dsimp only at hc8)
          refine gm_p k_Md_firstOf rfl rfl ?_
          refine gm_ret (v := some (.int _)) k_Md_firstOf rfl rfl trivial rfl ⟨?_, rfl⟩; rfl
        · (try dsimp only at hc8)
          (exfalso; simp_all; done)
      · split at hk
        · split at hk
          · 
            refine gm_p k_Md_firstOf rfl rfl ?_
            refine gm_if k_Md_firstOf rfl rfl rfl (fun hc8 => ?_) (fun hc8 => ?_)
            · (try dsimp only at hc8)
              (exfalso; simp_all; done)
            · (try dsimp only at hc8)
              refine gm_p k_Md_firstOf rfl rfl ?_
              refine gm_p k_Md_firstOf rfl rfl ?_
              refine gm_ivE (M' := m_Md_isWithin) (As := [.int _]) k_Md_firstOf rfl rfl rfl rfl rfl rfl (Nat.le_of_ble_eq_true rfl) (c_Md_isWithin (by assumption)) ?_
              refine gm_if k_Md_firstOf rfl rfl rfl (fun hc16 => ?_) (fun hc16 => ?_)
              · (try dsimp only at hc16)
                (exfalso; simp_all; done)
              · (try dsimp only at hc16)
                refine gm_p k_Md_firstOf rfl rfl ?_
                refine gm_g k_Md_firstOf rfl rfl rfl rfl ?_
                refine gm_p k_Md_firstOf rfl rfl ?_
                refine gm_ld k_Md_firstOf rfl rfl (gi_in (by assumption)) (by decide) ?_
                refine gm_p k_Md_firstOf rfl rfl ?_
                refine gm_j k_Md_firstOf rfl rfl ?_
                exact ih _ hk
          · cases hk
            refine gm_p k_Md_firstOf rfl rfl ?_
            refine gm_if k_Md_firstOf rfl rfl rfl (fun hc8 => ?_) (fun hc8 => ?_)
            · (try dsimp only at hc8)
              (exfalso; simp_all; done)
            · (try dsimp only at hc8)
              refine gm_p k_Md_firstOf rfl rfl ?_
              refine gm_p k_Md_firstOf rfl rfl ?_
              refine gm_ivE (M' := m_Md_isWithin) (As := [.int _]) k_Md_firstOf rfl rfl rfl rfl rfl rfl (Nat.le_of_ble_eq_true rfl) (c_Md_isWithin (by assumption)) ?_
              refine gm_if k_Md_firstOf rfl rfl rfl (fun hc16 => ?_) (fun hc16 => ?_)
              · (try dsimp only at hc16)
                refine gm_p k_Md_firstOf rfl rfl ?_
                refine gm_ret (v := some (.int _)) k_Md_firstOf rfl rfl trivial rfl ⟨?_, rfl⟩; rfl
              · (try dsimp only at hc16)
                (exfalso; simp_all; done)
        · cases hk
  refine gm_p k_Md_firstOf rfl rfl ?_
  refine gm_g k_Md_firstOf rfl rfl rfl rfl ?_
  refine gm_p k_Md_firstOf rfl rfl ?_
  refine gm_ld k_Md_firstOf rfl rfl (gi_in (by assumption)) (by decide) ?_
  refine gm_p k_Md_firstOf rfl rfl ?_
  exact loop n _ hp
theorem c_Md_hasSignalQ (x : Int64) (y : Int32) (h : gx_H) : gx_Has l F d m_Md_hasSignal [.long x, .int y] h (fun v h' => v = some (.int (q_hasS x y)) ∧ h' = h) := c_Md_hasSignal x y h
theorem c_Md_withoutQ (x : Int64) (y : Int32) (h : gx_H) : gx_Has l F d m_Md_without [.long x, .int y] h (fun v h' => v = some (.long (q_wo x y)) ∧ h' = h) := c_Md_without x y h
theorem c_Md_loweredQ (x : Int32) (h : gx_H) : gx_Has l F d m_Md_lowered [.int x] h (fun v h' => v = some (.int (q_low x)) ∧ h' = h) := c_Md_lowered x h
end MD2
