def rd_fs (A : Nat → Nat) (r : Nat → Int32) (k : Nat → Option Nat) : List Value := [va_rf (k 0), .ref (A 1), .ref (A 2), .ref (A 3), .ref (A 4), .ref (A 5), .int (r 6), .int (r 7), .int (r 8), .int (r 9), .int (r 10), .int (r 11), .int (r 12), .int (r 13), .int (r 14), .int (r 15), .int (r 16)]
def rd_ln (k : Nat) : Nat := match k with
  | 1 => 500
  | 2 => 5
  | 3 => 26
  | 4 => 13
  | 5 => 30
  | _ => 0
def rd_kd (k : Nat) : Nat := match k with
  | 1 => 2
  | _ => 0
def rd_K : ck_K := (4, rd_fs, rd_ln, rd_kd)
theorem sw_Node_codesAtOnce {x : Int32} (h1 : ¬ x = 1) (h2 : ¬ x = 2) (h3 : ¬ x = 3) (h4 : ¬ x = 4) (h5 : ¬ x = 5) (h6 : ¬ x = 6) (h7 : ¬ x = 7) : x.toInt < 1 ∨ 7 < x.toInt := by
  simp only [← Int32.toInt_inj] at h1 h2 h3 h4 h5 h6 h7
  have e1 : (1 : Int32).toInt = 1 := rfl
  have e2 : (2 : Int32).toInt = 2 := rfl
  have e3 : (3 : Int32).toInt = 3 := rfl
  have e4 : (4 : Int32).toInt = 4 := rfl
  have e5 : (5 : Int32).toInt = 5 := rfl
  have e6 : (6 : Int32).toInt = 6 := rfl
  have e7 : (7 : Int32).toInt = 7 := rfl
  omega
theorem sw_Prog_told {x : Int32} (h0 : ¬ x = 0) (h1 : ¬ x = 1) (h2 : ¬ x = 2) (h3 : ¬ x = 3) (h4 : ¬ x = 4) : x.toInt < 0 ∨ 4 < x.toInt := by
  simp only [← Int32.toInt_inj] at h0 h1 h2 h3 h4
  have e0 : (0 : Int32).toInt = 0 := rfl
  have e1 : (1 : Int32).toInt = 1 := rfl
  have e2 : (2 : Int32).toInt = 2 := rfl
  have e3 : (3 : Int32).toInt = 3 := rfl
  have e4 : (4 : Int32).toInt = 4 := rfl
  omega
theorem sw_Rd_readUnit {x : Int32} (h33 : ¬ x = 33) (h35 : ¬ x = 35) (h36 : ¬ x = 36) (h37 : ¬ x = 37) (h38 : ¬ x = 38) (h42 : ¬ x = 42) (h46 : ¬ x = 46) (h48 : ¬ x = 48) (h49 : ¬ x = 49) (h63 : ¬ x = 63) (h64 : ¬ x = 64) (h94 : ¬ x = 94) (h126 : ¬ x = 126) : Op.lookupswitch.offset [(33, 125), (35, 144), (36, 149), (37, 213), (38, 183), (42, 138), (46, 172), (48, 115), (49, 119), (63, 133), (64, 177), (94, 203), (126, 220)] 227 x.toInt = 227 := by
  rw [Op.lookupswitch.offset_cons, if_neg (sw_nx (z := 33) h33 rfl), Op.lookupswitch.offset_cons, if_neg (sw_nx (z := 35) h35 rfl), Op.lookupswitch.offset_cons, if_neg (sw_nx (z := 36) h36 rfl), Op.lookupswitch.offset_cons, if_neg (sw_nx (z := 37) h37 rfl), Op.lookupswitch.offset_cons, if_neg (sw_nx (z := 38) h38 rfl), Op.lookupswitch.offset_cons, if_neg (sw_nx (z := 42) h42 rfl), Op.lookupswitch.offset_cons, if_neg (sw_nx (z := 46) h46 rfl), Op.lookupswitch.offset_cons, if_neg (sw_nx (z := 48) h48 rfl), Op.lookupswitch.offset_cons, if_neg (sw_nx (z := 49) h49 rfl), Op.lookupswitch.offset_cons, if_neg (sw_nx (z := 63) h63 rfl), Op.lookupswitch.offset_cons, if_neg (sw_nx (z := 64) h64 rfl), Op.lookupswitch.offset_cons, if_neg (sw_nx (z := 94) h94 rfl), Op.lookupswitch.offset_cons, if_neg (sw_nx (z := 126) h126 rfl), Op.lookupswitch.offset_nil]
section RD1
variable {l : Launch} {F : gx_F} {d : Nat} {K : ck_K} {a : Nat} {A : Nat → Nat}
def sp_Node_pausesOf_4   : Nat → Option Nat → Int32 → Option Nat → ck_S → Option (Int32 × ck_S)
  | 0, _, _, _, _ => none
  | m + 1, v0, v1, v2, σ => (match v2 with
  | none => some (v1, σ)
  | some b1 => (match egI σ.2.2.2.1 b1 2 3 with
  | none => none
  | some y2 => (match egR σ.2.2.2.1 b1 2 5 with
  | none => none
  | some y3 => sp_Node_pausesOf_4    m v0 (v1 ||| y2) y3 σ)))
theorem c_sp_Node_pausesOf_4  {r : Int32 × ck_S} : ∀ (m : Nat) (v0 : Option Nat) (v1 : Int32) (v2 : Option Nat) (σ : ck_S), sp_Node_pausesOf_4   m v0 v1 v2 σ = some r → ck_Go l F (d) m_Node_pausesOf K a A 4 ([some (va_rf v0), some (.int v1), some (va_rf v2)]) [] σ (fun w σ' => w = some (.int r.1) ∧ σ' = r.2) := by
  intro m
  induction m with
  | zero => intro v0 v1 v2 σ hp; cases hp
  | succ m ihm =>
    intro v0 v1 v2 σ hp
    unfold sp_Node_pausesOf_4 at hp
    refine ck_p (L' := [some (va_rf v0), some (.int v1), some (va_rf v2)]) (st' := [va_rf v2]) k_Node_pausesOf rfl (by cases v2 <;> rfl) ?_
    cases v2 with
    | none =>
      try dsimp only at hp
      refine ck_j k_Node_pausesOf rfl rfl ?_
      refine ck_p (L' := [some (va_rf v0), some (.int v1), some (.null)]) (st' := [.int v1]) k_Node_pausesOf rfl rfl ?_
      cases hp
      exact ck_ret (v := some (.int _)) k_Node_pausesOf rfl rfl trivial rfl ⟨rfl, rfl⟩
    | some b1 =>
      try dsimp only at hp
      refine ck_j k_Node_pausesOf rfl rfl ?_
      refine ck_p (L' := [some (va_rf v0), some (.int v1), some (.ref b1)]) (st' := [.int v1]) k_Node_pausesOf rfl rfl ?_
      refine ck_p (L' := [some (va_rf v0), some (.int v1), some (.ref b1)]) (st' := [.ref b1, .int v1]) k_Node_pausesOf rfl rfl ?_
      cases hy2 : egI σ.2.2.2.1 b1 2 3 with
      | none =>
        rw [hy2] at hp
        cases hp
      | some y2 =>
        rw [hy2] at hp
        try dsimp only at hp
        refine ck_gE k_Node_pausesOf rfl rfl rfl (egI_of hy2) ?_
        refine ck_p (L' := [some (va_rf v0), some (.int v1), some (.ref b1)]) (st' := [.int (v1 ||| y2)]) k_Node_pausesOf rfl rfl ?_
        refine ck_p (L' := [some (va_rf v0), some (.int (v1 ||| y2)), some (.ref b1)]) (st' := []) k_Node_pausesOf rfl (by cases v0 <;> rfl) ?_
        refine ck_p (L' := [some (va_rf v0), some (.int (v1 ||| y2)), some (.ref b1)]) (st' := [.ref b1]) k_Node_pausesOf rfl rfl ?_
        cases hy3 : egR σ.2.2.2.1 b1 2 5 with
        | none =>
          rw [hy3] at hp
          cases hp
        | some y3 =>
          rw [hy3] at hp
          try dsimp only at hp
          refine ck_gE k_Node_pausesOf rfl rfl rfl (egR_of hy3) ?_
          refine ck_p (L' := [some (va_rf v0), some (.int (v1 ||| y2)), some (va_rf y3)]) (st' := []) k_Node_pausesOf rfl (by cases y3 <;> rfl) ?_
          refine ck_j k_Node_pausesOf rfl rfl ?_
          exact ihm _ _ _ _ hp
def sp_Node_pausesOf  (v0 : Option Nat) (σ : ck_S) : Option (Int32 × ck_S) := sp_Node_pausesOf_4   2601 v0 0 v0 σ
theorem c_sp_Node_pausesOf  {v0 : Option Nat} {σ : ck_S} {r : Int32 × ck_S} (hp : sp_Node_pausesOf  v0 σ = some r) : ck_Has l F (d) m_Node_pausesOf K a A [va_rf v0] σ (fun w σ' => w = some (.int r.1) ∧ σ' = r.2) := by
  refine ck_meth (k := 2) (L := [some (va_rf v0), none, none]) pn_Node (by cases v0 <;> rfl) (by cases v0 <;> exact (Nat.le_of_ble_eq_true rfl)) ?_
  unfold sp_Node_pausesOf at hp
  refine ck_p (L' := [some (va_rf v0), none, none]) (st' := [.int 0]) k_Node_pausesOf rfl rfl ?_
  refine ck_p (L' := [some (va_rf v0), some (.int 0), none]) (st' := []) k_Node_pausesOf rfl (by cases v0 <;> rfl) ?_
  refine ck_p (L' := [some (va_rf v0), some (.int 0), none]) (st' := [va_rf v0]) k_Node_pausesOf rfl (by cases v0 <;> rfl) ?_
  refine ck_p (L' := [some (va_rf v0), some (.int 0), some (va_rf v0)]) (st' := []) k_Node_pausesOf rfl (by cases v0 <;> rfl) ?_
  exact c_sp_Node_pausesOf_4   _ _ _ _ _ hp
def sp_Node_codesAtOnce_86   : Nat → Int32 → Int32 → Option Nat → Int32 → Option Nat → ck_S → Option (Int32 × ck_S)
  | 0, _, _, _, _, _, _ => none
  | m + 1, v0, v1, v2, v3, v4, σ => (match v4 with
  | none => some (v3, σ)
  | some b4 => (if v0 = 3 then (match egI σ.2.2.2.1 b4 2 4 with
  | none => none
  | some y13 => (match egR σ.2.2.2.1 b4 2 5 with
  | none => none
  | some y14 => sp_Node_codesAtOnce_86    m v0 v1 v2 (v3 ||| y13) y14 σ)) else (if v0 = 10 then (match egI σ.2.2.2.1 b4 2 4 with
  | none => none
  | some y11 => (match egR σ.2.2.2.1 b4 2 5 with
  | none => none
  | some y12 => sp_Node_codesAtOnce_86    m v0 v1 v2 (q_Codes_greater v3 y11) y12 σ)) else (if (v3 &&& 1) = 0 then (match egR σ.2.2.2.1 b4 2 5 with
  | none => none
  | some y8 => sp_Node_codesAtOnce_86    m v0 v1 v2 v3 y8 σ) else (match egI σ.2.2.2.1 b4 2 4 with
  | none => none
  | some y9 => (match egR σ.2.2.2.1 b4 2 5 with
  | none => none
  | some y10 => sp_Node_codesAtOnce_86    m v0 v1 v2 ((v3 &&& (-2)) ||| y9) y10 σ))))))
theorem c_sp_Node_codesAtOnce_86  {r : Int32 × ck_S} : ∀ (m : Nat) (v0 : Int32) (v1 : Int32) (v2 : Option Nat) (v3 : Int32) (v4 : Option Nat) (σ : ck_S), sp_Node_codesAtOnce_86   m v0 v1 v2 v3 v4 σ = some r → ck_Go l F (d + 1) m_Node_codesAtOnce K a A 86 ([some (.int v0), some (.int v1), some (va_rf v2), some (.int v3), some (va_rf v4)]) [] σ (fun w σ' => w = some (.int r.1) ∧ σ' = r.2) := by
  intro m
  induction m with
  | zero => intro v0 v1 v2 v3 v4 σ hp; cases hp
  | succ m ihm =>
    intro v0 v1 v2 v3 v4 σ hp
    unfold sp_Node_codesAtOnce_86 at hp
    refine ck_p (L' := [some (.int v0), some (.int v1), some (va_rf v2), some (.int v3), some (va_rf v4)]) (st' := [va_rf v4]) k_Node_codesAtOnce rfl (by cases v4 <;> rfl) ?_
    cases v4 with
    | none =>
      try dsimp only at hp
      refine ck_j k_Node_codesAtOnce rfl rfl ?_
      refine ck_p (L' := [some (.int v0), some (.int v1), some (va_rf v2), some (.int v3), some (.null)]) (st' := [.int v3]) k_Node_codesAtOnce rfl rfl ?_
      cases hp
      exact ck_ret (v := some (.int _)) k_Node_codesAtOnce rfl rfl trivial rfl ⟨rfl, rfl⟩
    | some b4 =>
      try dsimp only at hp
      refine ck_j k_Node_codesAtOnce rfl rfl ?_
      refine ck_p (L' := [some (.int v0), some (.int v1), some (va_rf v2), some (.int v3), some (.ref b4)]) (st' := [.int v0]) k_Node_codesAtOnce rfl rfl ?_
      refine ck_p (L' := [some (.int v0), some (.int v1), some (va_rf v2), some (.int v3), some (.ref b4)]) (st' := [.int 3, .int v0]) k_Node_codesAtOnce rfl rfl ?_
      refine ck_ic k_Node_codesAtOnce rfl rfl rfl (fun h5 => ?_) (fun h5 => ?_)
      · skip
        rw [if_neg (show ¬ (v0 = 3) from h5)] at hp
        refine ck_p (L' := [some (.int v0), some (.int v1), some (va_rf v2), some (.int v3), some (.ref b4)]) (st' := [.int v0]) k_Node_codesAtOnce rfl rfl ?_
        refine ck_p (L' := [some (.int v0), some (.int v1), some (va_rf v2), some (.int v3), some (.ref b4)]) (st' := [.int 10, .int v0]) k_Node_codesAtOnce rfl rfl ?_
        refine ck_ic k_Node_codesAtOnce rfl rfl rfl (fun h6 => ?_) (fun h6 => ?_)
        · skip
          rw [if_neg (show ¬ (v0 = 10) from h6)] at hp
          refine ck_p (L' := [some (.int v0), some (.int v1), some (va_rf v2), some (.int v3), some (.ref b4)]) (st' := [.int v3]) k_Node_codesAtOnce rfl rfl ?_
          refine ck_p (L' := [some (.int v0), some (.int v1), some (va_rf v2), some (.int v3), some (.ref b4)]) (st' := [.int 1, .int v3]) k_Node_codesAtOnce rfl rfl ?_
          refine ck_p (L' := [some (.int v0), some (.int v1), some (va_rf v2), some (.int v3), some (.ref b4)]) (st' := [.int (v3 &&& 1)]) k_Node_codesAtOnce rfl rfl ?_
          refine ck_if k_Node_codesAtOnce rfl rfl rfl (fun h7 => ?_) (fun h7 => ?_)
          · skip
            rw [if_pos (show (v3 &&& 1) = 0 from h7)] at hp
            refine ck_p (L' := [some (.int v0), some (.int v1), some (va_rf v2), some (.int v3), some (.ref b4)]) (st' := [.ref b4]) k_Node_codesAtOnce rfl rfl ?_
            cases hy8 : egR σ.2.2.2.1 b4 2 5 with
            | none =>
              rw [hy8] at hp
              cases hp
            | some y8 =>
              rw [hy8] at hp
              try dsimp only at hp
              refine ck_gE k_Node_codesAtOnce rfl rfl rfl (egR_of hy8) ?_
              refine ck_p (L' := [some (.int v0), some (.int v1), some (va_rf v2), some (.int v3), some (va_rf y8)]) (st' := []) k_Node_codesAtOnce rfl (by cases y8 <;> rfl) ?_
              refine ck_j k_Node_codesAtOnce rfl rfl ?_
              exact ihm _ _ _ _ _ _ hp
          · skip
            rw [if_neg (show ¬ ((v3 &&& 1) = 0) from h7)] at hp
            refine ck_p (L' := [some (.int v0), some (.int v1), some (va_rf v2), some (.int v3), some (.ref b4)]) (st' := [.int v3]) k_Node_codesAtOnce rfl rfl ?_
            refine ck_p (L' := [some (.int v0), some (.int v1), some (va_rf v2), some (.int v3), some (.ref b4)]) (st' := [.int (-2), .int v3]) k_Node_codesAtOnce rfl rfl ?_
            refine ck_p (L' := [some (.int v0), some (.int v1), some (va_rf v2), some (.int v3), some (.ref b4)]) (st' := [.int (v3 &&& (-2))]) k_Node_codesAtOnce rfl rfl ?_
            refine ck_p (L' := [some (.int v0), some (.int v1), some (va_rf v2), some (.int v3), some (.ref b4)]) (st' := [.ref b4, .int (v3 &&& (-2))]) k_Node_codesAtOnce rfl rfl ?_
            cases hy9 : egI σ.2.2.2.1 b4 2 4 with
            | none =>
              rw [hy9] at hp
              cases hp
            | some y9 =>
              rw [hy9] at hp
              try dsimp only at hp
              refine ck_gE k_Node_codesAtOnce rfl rfl rfl (egI_of hy9) ?_
              refine ck_p (L' := [some (.int v0), some (.int v1), some (va_rf v2), some (.int v3), some (.ref b4)]) (st' := [.int ((v3 &&& (-2)) ||| y9)]) k_Node_codesAtOnce rfl rfl ?_
              refine ck_p (L' := [some (.int v0), some (.int v1), some (va_rf v2), some (.int ((v3 &&& (-2)) ||| y9)), some (.ref b4)]) (st' := []) k_Node_codesAtOnce rfl (by cases v2 <;> rfl) ?_
              refine ck_p (L' := [some (.int v0), some (.int v1), some (va_rf v2), some (.int ((v3 &&& (-2)) ||| y9)), some (.ref b4)]) (st' := [.ref b4]) k_Node_codesAtOnce rfl rfl ?_
              cases hy10 : egR σ.2.2.2.1 b4 2 5 with
              | none =>
                rw [hy10] at hp
                cases hp
              | some y10 =>
                rw [hy10] at hp
                try dsimp only at hp
                refine ck_gE k_Node_codesAtOnce rfl rfl rfl (egR_of hy10) ?_
                refine ck_p (L' := [some (.int v0), some (.int v1), some (va_rf v2), some (.int ((v3 &&& (-2)) ||| y9)), some (va_rf y10)]) (st' := []) k_Node_codesAtOnce rfl (by cases y10 <;> rfl) ?_
                refine ck_j k_Node_codesAtOnce rfl rfl ?_
                exact ihm _ _ _ _ _ _ hp
        · skip
          rw [if_pos (show v0 = 10 from h6)] at hp
          refine ck_p (L' := [some (.int v0), some (.int v1), some (va_rf v2), some (.int v3), some (.ref b4)]) (st' := [.int v3]) k_Node_codesAtOnce rfl rfl ?_
          refine ck_p (L' := [some (.int v0), some (.int v1), some (va_rf v2), some (.int v3), some (.ref b4)]) (st' := [.ref b4, .int v3]) k_Node_codesAtOnce rfl rfl ?_
          cases hy11 : egI σ.2.2.2.1 b4 2 4 with
          | none =>
            rw [hy11] at hp
            cases hp
          | some y11 =>
            rw [hy11] at hp
            try dsimp only at hp
            refine ck_gE k_Node_codesAtOnce rfl rfl rfl (egI_of hy11) ?_
            refine ck_isB (M' := m_Codes_greater) (As := [.int v3, .int y11]) k_Node_codesAtOnce rfl rfl rfl rfl rfl rfl (Nat.le_of_ble_eq_true rfl) (c_q_Codes_greater rfl) (fun _ => ?_)
            refine ck_p (L' := [some (.int v0), some (.int v1), some (va_rf v2), some (.int (q_Codes_greater v3 y11)), some (.ref b4)]) (st' := []) k_Node_codesAtOnce rfl (by cases v2 <;> rfl) ?_
            refine ck_j k_Node_codesAtOnce rfl rfl ?_
            refine ck_p (L' := [some (.int v0), some (.int v1), some (va_rf v2), some (.int (q_Codes_greater v3 y11)), some (.ref b4)]) (st' := [.ref b4]) k_Node_codesAtOnce rfl rfl ?_
            cases hy12 : egR σ.2.2.2.1 b4 2 5 with
            | none =>
              rw [hy12] at hp
              cases hp
            | some y12 =>
              rw [hy12] at hp
              try dsimp only at hp
              refine ck_gE k_Node_codesAtOnce rfl rfl rfl (egR_of hy12) ?_
              refine ck_p (L' := [some (.int v0), some (.int v1), some (va_rf v2), some (.int (q_Codes_greater v3 y11)), some (va_rf y12)]) (st' := []) k_Node_codesAtOnce rfl (by cases y12 <;> rfl) ?_
              refine ck_j k_Node_codesAtOnce rfl rfl ?_
              exact ihm _ _ _ _ _ _ hp
      · skip
        rw [if_pos (show v0 = 3 from h5)] at hp
        refine ck_p (L' := [some (.int v0), some (.int v1), some (va_rf v2), some (.int v3), some (.ref b4)]) (st' := [.int v3]) k_Node_codesAtOnce rfl rfl ?_
        refine ck_p (L' := [some (.int v0), some (.int v1), some (va_rf v2), some (.int v3), some (.ref b4)]) (st' := [.ref b4, .int v3]) k_Node_codesAtOnce rfl rfl ?_
        cases hy13 : egI σ.2.2.2.1 b4 2 4 with
        | none =>
          rw [hy13] at hp
          cases hp
        | some y13 =>
          rw [hy13] at hp
          try dsimp only at hp
          refine ck_gE k_Node_codesAtOnce rfl rfl rfl (egI_of hy13) ?_
          refine ck_p (L' := [some (.int v0), some (.int v1), some (va_rf v2), some (.int v3), some (.ref b4)]) (st' := [.int (v3 ||| y13)]) k_Node_codesAtOnce rfl rfl ?_
          refine ck_p (L' := [some (.int v0), some (.int v1), some (va_rf v2), some (.int (v3 ||| y13)), some (.ref b4)]) (st' := []) k_Node_codesAtOnce rfl (by cases v2 <;> rfl) ?_
          refine ck_j k_Node_codesAtOnce rfl rfl ?_
          refine ck_p (L' := [some (.int v0), some (.int v1), some (va_rf v2), some (.int (v3 ||| y13)), some (.ref b4)]) (st' := [.ref b4]) k_Node_codesAtOnce rfl rfl ?_
          cases hy14 : egR σ.2.2.2.1 b4 2 5 with
          | none =>
            rw [hy14] at hp
            cases hp
          | some y14 =>
            rw [hy14] at hp
            try dsimp only at hp
            refine ck_gE k_Node_codesAtOnce rfl rfl rfl (egR_of hy14) ?_
            refine ck_p (L' := [some (.int v0), some (.int v1), some (va_rf v2), some (.int (v3 ||| y13)), some (va_rf y14)]) (st' := []) k_Node_codesAtOnce rfl (by cases y14 <;> rfl) ?_
            refine ck_j k_Node_codesAtOnce rfl rfl ?_
            exact ihm _ _ _ _ _ _ hp
def sp_Node_codesAtOnce  (v0 : Int32) (v1 : Int32) (v2 : Option Nat) (σ : ck_S) : Option (Int32 × ck_S) := (match v2 with
  | none => (if v0 = 1 then some (2, σ) else (if v0 = 2 then sp_Node_codesAtOnce_86   2601 v0 v1 none 1 none σ else (if v0 = 3 then sp_Node_codesAtOnce_86   2601 v0 v1 none 1 none σ else (if v0 = 4 then some ((1 &&& (-2)), σ) else (if v0 = 5 then sp_Node_codesAtOnce_86   2601 v0 v1 none 1 none σ else (if v0 = 6 then some ((q_Codes_behindTrap 1), σ) else (if v0 = 7 then some (((1 : Int32) <<< (v1 &&& 31)), σ) else sp_Node_codesAtOnce_86   2601 v0 v1 none 1 none σ)))))))
  | some b1 => (match egI σ.2.2.2.1 b1 2 4 with
  | none => none
  | some y20 => (if v0 = 1 then some (2, σ) else (if v0 = 2 then (match egR σ.2.2.2.1 b1 2 5 with
  | none => none
  | some y23 => sp_Node_codesAtOnce_86   2601 v0 v1 (some b1) y20 y23 σ) else (if v0 = 3 then (match egR σ.2.2.2.1 b1 2 5 with
  | none => none
  | some y25 => sp_Node_codesAtOnce_86   2601 v0 v1 (some b1) y20 y25 σ) else (if v0 = 4 then some ((y20 &&& (-2)), σ) else (if v0 = 5 then (match egR σ.2.2.2.1 b1 2 5 with
  | none => none
  | some y28 => sp_Node_codesAtOnce_86   2601 v0 v1 (some b1) y20 y28 σ) else (if v0 = 6 then some ((q_Codes_behindTrap y20), σ) else (if v0 = 7 then some (((1 : Int32) <<< (v1 &&& 31)), σ) else (match egR σ.2.2.2.1 b1 2 5 with
  | none => none
  | some y31 => sp_Node_codesAtOnce_86   2601 v0 v1 (some b1) y20 y31 σ))))))))))
theorem c_sp_Node_codesAtOnce  {v0 : Int32} {v1 : Int32} {v2 : Option Nat} {σ : ck_S} {r : Int32 × ck_S} (hp : sp_Node_codesAtOnce  v0 v1 v2 σ = some r) : ck_Has l F (d + 1) m_Node_codesAtOnce K a A [.int v0, .int v1, va_rf v2] σ (fun w σ' => w = some (.int r.1) ∧ σ' = r.2) := by
  refine ck_meth (k := 2) (L := [some (.int v0), some (.int v1), some (va_rf v2), none, none]) pn_Node (by cases v2 <;> rfl) (by cases v2 <;> exact (Nat.le_of_ble_eq_true rfl)) ?_
  unfold sp_Node_codesAtOnce at hp
  refine ck_p (L' := [some (.int v0), some (.int v1), some (va_rf v2), none, none]) (st' := [va_rf v2]) k_Node_codesAtOnce rfl (by cases v2 <;> rfl) ?_
  cases v2 with
  | none =>
    try dsimp only at hp
    refine ck_j k_Node_codesAtOnce rfl rfl ?_
    refine ck_p (L' := [some (.int v0), some (.int v1), some (.null), none, none]) (st' := [.int 1]) k_Node_codesAtOnce rfl rfl ?_
    refine ck_j k_Node_codesAtOnce rfl rfl ?_
    refine ck_p (L' := [some (.int v0), some (.int v1), some (.null), some (.int 1), none]) (st' := []) k_Node_codesAtOnce rfl rfl ?_
    refine ck_p (L' := [some (.int v0), some (.int v1), some (.null), some (.int 1), none]) (st' := [.int v0]) k_Node_codesAtOnce rfl rfl ?_
    by_cases h2 : v0 = 1
    · rw [if_pos h2] at hp
      refine ck_tJ (tgt := 56) k_Node_codesAtOnce rfl rfl h2 (by decide) (by decide) rfl rfl ?_
      refine ck_p (L' := [some (.int v0), some (.int v1), some (.null), some (.int 1), none]) (st' := [.int 2]) k_Node_codesAtOnce rfl rfl ?_
      cases hp
      exact ck_ret (v := some (.int _)) k_Node_codesAtOnce rfl rfl trivial rfl ⟨rfl, rfl⟩
    · rw [if_neg h2] at hp
      by_cases h3 : v0 = 2
      · rw [if_pos h3] at hp
        refine ck_tJ (tgt := 72) k_Node_codesAtOnce rfl rfl h3 (by decide) (by decide) rfl rfl ?_
        refine ck_p (L' := [some (.int v0), some (.int v1), some (.null), some (.int 1), none]) (st' := [.null]) k_Node_codesAtOnce rfl rfl ?_
        refine ck_j k_Node_codesAtOnce rfl rfl ?_
        refine ck_p (L' := [some (.int v0), some (.int v1), some (.null), some (.int 1), none]) (st' := [.null]) k_Node_codesAtOnce rfl rfl ?_
        refine ck_j k_Node_codesAtOnce rfl rfl ?_
        refine ck_p (L' := [some (.int v0), some (.int v1), some (.null), some (.int 1), some (.null)]) (st' := []) k_Node_codesAtOnce rfl rfl ?_
        exact c_sp_Node_codesAtOnce_86   _ _ _ _ _ _ _ hp
      · rw [if_neg h3] at hp
        by_cases h15 : v0 = 3
        · rw [if_pos h15] at hp
          refine ck_tJ (tgt := 72) k_Node_codesAtOnce rfl rfl h15 (by decide) (by decide) rfl rfl ?_
          refine ck_p (L' := [some (.int v0), some (.int v1), some (.null), some (.int 1), none]) (st' := [.null]) k_Node_codesAtOnce rfl rfl ?_
          refine ck_j k_Node_codesAtOnce rfl rfl ?_
          refine ck_p (L' := [some (.int v0), some (.int v1), some (.null), some (.int 1), none]) (st' := [.null]) k_Node_codesAtOnce rfl rfl ?_
          refine ck_j k_Node_codesAtOnce rfl rfl ?_
          refine ck_p (L' := [some (.int v0), some (.int v1), some (.null), some (.int 1), some (.null)]) (st' := []) k_Node_codesAtOnce rfl rfl ?_
          exact c_sp_Node_codesAtOnce_86   _ _ _ _ _ _ _ hp
        · rw [if_neg h15] at hp
          by_cases h16 : v0 = 4
          · rw [if_pos h16] at hp
            refine ck_tJ (tgt := 62) k_Node_codesAtOnce rfl rfl h16 (by decide) (by decide) rfl rfl ?_
            refine ck_p (L' := [some (.int v0), some (.int v1), some (.null), some (.int 1), none]) (st' := [.int 1]) k_Node_codesAtOnce rfl rfl ?_
            refine ck_p (L' := [some (.int v0), some (.int v1), some (.null), some (.int 1), none]) (st' := [.int (-2), .int 1]) k_Node_codesAtOnce rfl rfl ?_
            refine ck_p (L' := [some (.int v0), some (.int v1), some (.null), some (.int 1), none]) (st' := [.int (1 &&& (-2))]) k_Node_codesAtOnce rfl rfl ?_
            cases hp
            exact ck_ret (v := some (.int _)) k_Node_codesAtOnce rfl rfl trivial rfl ⟨rfl, rfl⟩
          · rw [if_neg h16] at hp
            by_cases h17 : v0 = 5
            · rw [if_pos h17] at hp
              refine ck_tJ (tgt := 72) k_Node_codesAtOnce rfl rfl h17 (by decide) (by decide) rfl rfl ?_
              refine ck_p (L' := [some (.int v0), some (.int v1), some (.null), some (.int 1), none]) (st' := [.null]) k_Node_codesAtOnce rfl rfl ?_
              refine ck_j k_Node_codesAtOnce rfl rfl ?_
              refine ck_p (L' := [some (.int v0), some (.int v1), some (.null), some (.int 1), none]) (st' := [.null]) k_Node_codesAtOnce rfl rfl ?_
              refine ck_j k_Node_codesAtOnce rfl rfl ?_
              refine ck_p (L' := [some (.int v0), some (.int v1), some (.null), some (.int 1), some (.null)]) (st' := []) k_Node_codesAtOnce rfl rfl ?_
              exact c_sp_Node_codesAtOnce_86   _ _ _ _ _ _ _ hp
            · rw [if_neg h17] at hp
              by_cases h18 : v0 = 6
              · rw [if_pos h18] at hp
                refine ck_tJ (tgt := 67) k_Node_codesAtOnce rfl rfl h18 (by decide) (by decide) rfl rfl ?_
                refine ck_p (L' := [some (.int v0), some (.int v1), some (.null), some (.int 1), none]) (st' := [.int 1]) k_Node_codesAtOnce rfl rfl ?_
                refine ck_isB (M' := m_Codes_behindTrap) (As := [.int 1]) k_Node_codesAtOnce rfl rfl rfl rfl rfl rfl (Nat.le_of_ble_eq_true rfl) (c_q_Codes_behindTrap rfl) (fun _ => ?_)
                cases hp
                exact ck_ret (v := some (.int _)) k_Node_codesAtOnce rfl rfl trivial rfl ⟨rfl, rfl⟩
              · rw [if_neg h18] at hp
                by_cases h19 : v0 = 7
                · rw [if_pos h19] at hp
                  refine ck_tJ (tgt := 58) k_Node_codesAtOnce rfl rfl h19 (by decide) (by decide) rfl rfl ?_
                  refine ck_p (L' := [some (.int v0), some (.int v1), some (.null), some (.int 1), none]) (st' := [.int 1]) k_Node_codesAtOnce rfl rfl ?_
                  refine ck_p (L' := [some (.int v0), some (.int v1), some (.null), some (.int 1), none]) (st' := [.int v1, .int 1]) k_Node_codesAtOnce rfl rfl ?_
                  refine ck_p (L' := [some (.int v0), some (.int v1), some (.null), some (.int 1), none]) (st' := [.int ((1 : Int32) <<< (v1 &&& 31))]) k_Node_codesAtOnce rfl rfl ?_
                  cases hp
                  exact ck_ret (v := some (.int _)) k_Node_codesAtOnce rfl rfl trivial rfl ⟨rfl, rfl⟩
                · rw [if_neg h19] at hp
                  refine ck_tO (tgt := 72) k_Node_codesAtOnce rfl rfl (sw_Node_codesAtOnce h2 h3 h15 h16 h17 h18 h19) rfl ?_
                  refine ck_p (L' := [some (.int v0), some (.int v1), some (.null), some (.int 1), none]) (st' := [.null]) k_Node_codesAtOnce rfl rfl ?_
                  refine ck_j k_Node_codesAtOnce rfl rfl ?_
                  refine ck_p (L' := [some (.int v0), some (.int v1), some (.null), some (.int 1), none]) (st' := [.null]) k_Node_codesAtOnce rfl rfl ?_
                  refine ck_j k_Node_codesAtOnce rfl rfl ?_
                  refine ck_p (L' := [some (.int v0), some (.int v1), some (.null), some (.int 1), some (.null)]) (st' := []) k_Node_codesAtOnce rfl rfl ?_
                  exact c_sp_Node_codesAtOnce_86   _ _ _ _ _ _ _ hp
  | some b1 =>
    try dsimp only at hp
    refine ck_j k_Node_codesAtOnce rfl rfl ?_
    refine ck_p (L' := [some (.int v0), some (.int v1), some (.ref b1), none, none]) (st' := [.ref b1]) k_Node_codesAtOnce rfl rfl ?_
    cases hy20 : egI σ.2.2.2.1 b1 2 4 with
    | none =>
      rw [hy20] at hp
      cases hp
    | some y20 =>
      rw [hy20] at hp
      try dsimp only at hp
      refine ck_gE k_Node_codesAtOnce rfl rfl rfl (egI_of hy20) ?_
      refine ck_p (L' := [some (.int v0), some (.int v1), some (.ref b1), some (.int y20), none]) (st' := []) k_Node_codesAtOnce rfl rfl ?_
      refine ck_p (L' := [some (.int v0), some (.int v1), some (.ref b1), some (.int y20), none]) (st' := [.int v0]) k_Node_codesAtOnce rfl rfl ?_
      by_cases h21 : v0 = 1
      · rw [if_pos h21] at hp
        refine ck_tJ (tgt := 56) k_Node_codesAtOnce rfl rfl h21 (by decide) (by decide) rfl rfl ?_
        refine ck_p (L' := [some (.int v0), some (.int v1), some (.ref b1), some (.int y20), none]) (st' := [.int 2]) k_Node_codesAtOnce rfl rfl ?_
        cases hp
        exact ck_ret (v := some (.int _)) k_Node_codesAtOnce rfl rfl trivial rfl ⟨rfl, rfl⟩
      · rw [if_neg h21] at hp
        by_cases h22 : v0 = 2
        · rw [if_pos h22] at hp
          refine ck_tJ (tgt := 72) k_Node_codesAtOnce rfl rfl h22 (by decide) (by decide) rfl rfl ?_
          refine ck_p (L' := [some (.int v0), some (.int v1), some (.ref b1), some (.int y20), none]) (st' := [.ref b1]) k_Node_codesAtOnce rfl rfl ?_
          refine ck_j k_Node_codesAtOnce rfl rfl ?_
          refine ck_p (L' := [some (.int v0), some (.int v1), some (.ref b1), some (.int y20), none]) (st' := [.ref b1]) k_Node_codesAtOnce rfl rfl ?_
          cases hy23 : egR σ.2.2.2.1 b1 2 5 with
          | none =>
            rw [hy23] at hp
            cases hp
          | some y23 =>
            rw [hy23] at hp
            try dsimp only at hp
            refine ck_gE k_Node_codesAtOnce rfl rfl rfl (egR_of hy23) ?_
            refine ck_p (L' := [some (.int v0), some (.int v1), some (.ref b1), some (.int y20), some (va_rf y23)]) (st' := []) k_Node_codesAtOnce rfl (by cases y23 <;> rfl) ?_
            exact c_sp_Node_codesAtOnce_86   _ _ _ _ _ _ _ hp
        · rw [if_neg h22] at hp
          by_cases h24 : v0 = 3
          · rw [if_pos h24] at hp
            refine ck_tJ (tgt := 72) k_Node_codesAtOnce rfl rfl h24 (by decide) (by decide) rfl rfl ?_
            refine ck_p (L' := [some (.int v0), some (.int v1), some (.ref b1), some (.int y20), none]) (st' := [.ref b1]) k_Node_codesAtOnce rfl rfl ?_
            refine ck_j k_Node_codesAtOnce rfl rfl ?_
            refine ck_p (L' := [some (.int v0), some (.int v1), some (.ref b1), some (.int y20), none]) (st' := [.ref b1]) k_Node_codesAtOnce rfl rfl ?_
            cases hy25 : egR σ.2.2.2.1 b1 2 5 with
            | none =>
              rw [hy25] at hp
              cases hp
            | some y25 =>
              rw [hy25] at hp
              try dsimp only at hp
              refine ck_gE k_Node_codesAtOnce rfl rfl rfl (egR_of hy25) ?_
              refine ck_p (L' := [some (.int v0), some (.int v1), some (.ref b1), some (.int y20), some (va_rf y25)]) (st' := []) k_Node_codesAtOnce rfl (by cases y25 <;> rfl) ?_
              exact c_sp_Node_codesAtOnce_86   _ _ _ _ _ _ _ hp
          · rw [if_neg h24] at hp
            by_cases h26 : v0 = 4
            · rw [if_pos h26] at hp
              refine ck_tJ (tgt := 62) k_Node_codesAtOnce rfl rfl h26 (by decide) (by decide) rfl rfl ?_
              refine ck_p (L' := [some (.int v0), some (.int v1), some (.ref b1), some (.int y20), none]) (st' := [.int y20]) k_Node_codesAtOnce rfl rfl ?_
              refine ck_p (L' := [some (.int v0), some (.int v1), some (.ref b1), some (.int y20), none]) (st' := [.int (-2), .int y20]) k_Node_codesAtOnce rfl rfl ?_
              refine ck_p (L' := [some (.int v0), some (.int v1), some (.ref b1), some (.int y20), none]) (st' := [.int (y20 &&& (-2))]) k_Node_codesAtOnce rfl rfl ?_
              cases hp
              exact ck_ret (v := some (.int _)) k_Node_codesAtOnce rfl rfl trivial rfl ⟨rfl, rfl⟩
            · rw [if_neg h26] at hp
              by_cases h27 : v0 = 5
              · rw [if_pos h27] at hp
                refine ck_tJ (tgt := 72) k_Node_codesAtOnce rfl rfl h27 (by decide) (by decide) rfl rfl ?_
                refine ck_p (L' := [some (.int v0), some (.int v1), some (.ref b1), some (.int y20), none]) (st' := [.ref b1]) k_Node_codesAtOnce rfl rfl ?_
                refine ck_j k_Node_codesAtOnce rfl rfl ?_
                refine ck_p (L' := [some (.int v0), some (.int v1), some (.ref b1), some (.int y20), none]) (st' := [.ref b1]) k_Node_codesAtOnce rfl rfl ?_
                cases hy28 : egR σ.2.2.2.1 b1 2 5 with
                | none =>
                  rw [hy28] at hp
                  cases hp
                | some y28 =>
                  rw [hy28] at hp
                  try dsimp only at hp
                  refine ck_gE k_Node_codesAtOnce rfl rfl rfl (egR_of hy28) ?_
                  refine ck_p (L' := [some (.int v0), some (.int v1), some (.ref b1), some (.int y20), some (va_rf y28)]) (st' := []) k_Node_codesAtOnce rfl (by cases y28 <;> rfl) ?_
                  exact c_sp_Node_codesAtOnce_86   _ _ _ _ _ _ _ hp
              · rw [if_neg h27] at hp
                by_cases h29 : v0 = 6
                · rw [if_pos h29] at hp
                  refine ck_tJ (tgt := 67) k_Node_codesAtOnce rfl rfl h29 (by decide) (by decide) rfl rfl ?_
                  refine ck_p (L' := [some (.int v0), some (.int v1), some (.ref b1), some (.int y20), none]) (st' := [.int y20]) k_Node_codesAtOnce rfl rfl ?_
                  refine ck_isB (M' := m_Codes_behindTrap) (As := [.int y20]) k_Node_codesAtOnce rfl rfl rfl rfl rfl rfl (Nat.le_of_ble_eq_true rfl) (c_q_Codes_behindTrap rfl) (fun _ => ?_)
                  cases hp
                  exact ck_ret (v := some (.int _)) k_Node_codesAtOnce rfl rfl trivial rfl ⟨rfl, rfl⟩
                · rw [if_neg h29] at hp
                  by_cases h30 : v0 = 7
                  · rw [if_pos h30] at hp
                    refine ck_tJ (tgt := 58) k_Node_codesAtOnce rfl rfl h30 (by decide) (by decide) rfl rfl ?_
                    refine ck_p (L' := [some (.int v0), some (.int v1), some (.ref b1), some (.int y20), none]) (st' := [.int 1]) k_Node_codesAtOnce rfl rfl ?_
                    refine ck_p (L' := [some (.int v0), some (.int v1), some (.ref b1), some (.int y20), none]) (st' := [.int v1, .int 1]) k_Node_codesAtOnce rfl rfl ?_
                    refine ck_p (L' := [some (.int v0), some (.int v1), some (.ref b1), some (.int y20), none]) (st' := [.int ((1 : Int32) <<< (v1 &&& 31))]) k_Node_codesAtOnce rfl rfl ?_
                    cases hp
                    exact ck_ret (v := some (.int _)) k_Node_codesAtOnce rfl rfl trivial rfl ⟨rfl, rfl⟩
                  · rw [if_neg h30] at hp
                    refine ck_tO (tgt := 72) k_Node_codesAtOnce rfl rfl (sw_Node_codesAtOnce h21 h22 h24 h26 h27 h29 h30) rfl ?_
                    refine ck_p (L' := [some (.int v0), some (.int v1), some (.ref b1), some (.int y20), none]) (st' := [.ref b1]) k_Node_codesAtOnce rfl rfl ?_
                    refine ck_j k_Node_codesAtOnce rfl rfl ?_
                    refine ck_p (L' := [some (.int v0), some (.int v1), some (.ref b1), some (.int y20), none]) (st' := [.ref b1]) k_Node_codesAtOnce rfl rfl ?_
                    cases hy31 : egR σ.2.2.2.1 b1 2 5 with
                    | none =>
                      rw [hy31] at hp
                      cases hp
                    | some y31 =>
                      rw [hy31] at hp
                      try dsimp only at hp
                      refine ck_gE k_Node_codesAtOnce rfl rfl rfl (egR_of hy31) ?_
                      refine ck_p (L' := [some (.int v0), some (.int v1), some (.ref b1), some (.int y20), some (va_rf y31)]) (st' := []) k_Node_codesAtOnce rfl (by cases y31 <;> rfl) ?_
                      exact c_sp_Node_codesAtOnce_86   _ _ _ _ _ _ _ hp
def sp_Node_init  (v0 : Nat) (v1 : Int32) (v2 : Int32) (v3 : Option Nat) (σ : ck_S) : Option (ck_S) := (match ep σ.2.2.2.1 v0 2 5 (.null) with
  | none => none
  | some y1 => (match ep y1 v0 2 0 (.int v1) with
  | none => none
  | some y2 => (match ep y2 v0 2 1 (.int v2) with
  | none => none
  | some y3 => (match ep y3 v0 2 2 (va_rf v3) with
  | none => none
  | some y4 => (if v1 = 1 then (match ep y4 v0 2 3 (.int v2) with
  | none => none
  | some y10 => (match sp_Node_codesAtOnce  v1 v2 v3 (σ.1, σ.2.1, σ.2.2.1, y10, σ.2.2.2.2.1, σ.2.2.2.2.2) with
  | none => none
  | some y11 => (match ep y11.2.2.2.2.1 v0 2 4 (.int y11.1) with
  | none => none
  | some y12 => some (y11.2.1, y11.2.2.1, y11.2.2.2.1, y12, y11.2.2.2.2.2.1, y11.2.2.2.2.2.2)))) else (match sp_Node_pausesOf  v3 (σ.1, σ.2.1, σ.2.2.1, y4, σ.2.2.2.2.1, σ.2.2.2.2.2) with
  | none => none
  | some y6 => (match ep y6.2.2.2.2.1 v0 2 3 (.int y6.1) with
  | none => none
  | some y7 => (match sp_Node_codesAtOnce  v1 v2 v3 (y6.2.1, y6.2.2.1, y6.2.2.2.1, y7, y6.2.2.2.2.2.1, y6.2.2.2.2.2.2) with
  | none => none
  | some y8 => (match ep y8.2.2.2.2.1 v0 2 4 (.int y8.1) with
  | none => none
  | some y9 => some (y8.2.1, y8.2.2.1, y8.2.2.2.1, y9, y8.2.2.2.2.2.1, y8.2.2.2.2.2.2))))))))))
theorem c_sp_Node_init  {v0 : Nat} {v1 : Int32} {v2 : Int32} {v3 : Option Nat} {σ : ck_S} {r : ck_S} (hp : sp_Node_init  v0 v1 v2 v3 σ = some r) : ck_Has l F (d + 2) m_Node_init K a A [.ref v0, .int v1, .int v2, va_rf v3] σ (fun w σ' => w = none ∧ σ' = r) := by
  refine ck_meth (k := 0) (L := [some (.ref v0), some (.int v1), some (.int v2), some (va_rf v3)]) pn_Node (by cases v3 <;> rfl) (by cases v3 <;> exact (Nat.le_of_ble_eq_true rfl)) ?_
  unfold sp_Node_init at hp
  refine ck_p (L' := [some (.ref v0), some (.int v1), some (.int v2), some (va_rf v3)]) (st' := [.ref v0]) k_Node_init rfl rfl ?_
  refine ck_oi k_Node_init rfl rfl rfl (Nat.le_of_ble_eq_true rfl) ?_
  refine ck_p (L' := [some (.ref v0), some (.int v1), some (.int v2), some (va_rf v3)]) (st' := [.ref v0]) k_Node_init rfl rfl ?_
  refine ck_p (L' := [some (.ref v0), some (.int v1), some (.int v2), some (va_rf v3)]) (st' := [.null, .ref v0]) k_Node_init rfl rfl ?_
  cases hy1 : ep σ.2.2.2.1 v0 2 5 (.null) with
  | none =>
    rw [hy1] at hp
    cases hp
  | some y1 =>
    rw [hy1] at hp
    try dsimp only at hp
    refine ck_pE k_Node_init rfl rfl rfl trivial hy1 ?_
    refine ck_p (L' := [some (.ref v0), some (.int v1), some (.int v2), some (va_rf v3)]) (st' := [.ref v0]) k_Node_init rfl rfl ?_
    refine ck_p (L' := [some (.ref v0), some (.int v1), some (.int v2), some (va_rf v3)]) (st' := [.int v1, .ref v0]) k_Node_init rfl rfl ?_
    cases hy2 : ep y1 v0 2 0 (.int v1) with
    | none =>
      rw [hy2] at hp
      cases hp
    | some y2 =>
      rw [hy2] at hp
      try dsimp only at hp
      refine ck_pE k_Node_init rfl rfl rfl trivial hy2 ?_
      refine ck_p (L' := [some (.ref v0), some (.int v1), some (.int v2), some (va_rf v3)]) (st' := [.ref v0]) k_Node_init rfl rfl ?_
      refine ck_p (L' := [some (.ref v0), some (.int v1), some (.int v2), some (va_rf v3)]) (st' := [.int v2, .ref v0]) k_Node_init rfl rfl ?_
      cases hy3 : ep y2 v0 2 1 (.int v2) with
      | none =>
        rw [hy3] at hp
        cases hp
      | some y3 =>
        rw [hy3] at hp
        try dsimp only at hp
        refine ck_pE k_Node_init rfl rfl rfl trivial hy3 ?_
        refine ck_p (L' := [some (.ref v0), some (.int v1), some (.int v2), some (va_rf v3)]) (st' := [.ref v0]) k_Node_init rfl rfl ?_
        refine ck_p (L' := [some (.ref v0), some (.int v1), some (.int v2), some (va_rf v3)]) (st' := [va_rf v3, .ref v0]) k_Node_init rfl (by cases v3 <;> rfl) ?_
        cases hy4 : ep y3 v0 2 2 (va_rf v3) with
        | none =>
          rw [hy4] at hp
          cases hp
        | some y4 =>
          rw [hy4] at hp
          try dsimp only at hp
          refine ck_pE k_Node_init rfl rfl rfl (by cases v3 <;> exact trivial) hy4 ?_
          refine ck_p (L' := [some (.ref v0), some (.int v1), some (.int v2), some (va_rf v3)]) (st' := [.ref v0]) k_Node_init rfl rfl ?_
          refine ck_p (L' := [some (.ref v0), some (.int v1), some (.int v2), some (va_rf v3)]) (st' := [.int v1, .ref v0]) k_Node_init rfl rfl ?_
          refine ck_p (L' := [some (.ref v0), some (.int v1), some (.int v2), some (va_rf v3)]) (st' := [.int 1, .int v1, .ref v0]) k_Node_init rfl rfl ?_
          refine ck_ic k_Node_init rfl rfl rfl (fun h5 => ?_) (fun h5 => ?_)
          · skip
            rw [if_neg (show ¬ (v1 = 1) from h5)] at hp
            refine ck_p (L' := [some (.ref v0), some (.int v1), some (.int v2), some (va_rf v3)]) (st' := [va_rf v3, .ref v0]) k_Node_init rfl (by cases v3 <;> rfl) ?_
            cases hy6 : sp_Node_pausesOf  v3 (σ.1, σ.2.1, σ.2.2.1, y4, σ.2.2.2.2.1, σ.2.2.2.2.2) with
            | none =>
              rw [hy6] at hp
              cases hp
            | some y6 =>
              rw [hy6] at hp
              try dsimp only at hp
              refine ck_isB (M' := m_Node_pausesOf) (As := [va_rf v3]) k_Node_init rfl rfl rfl rfl rfl rfl (Nat.le_of_ble_eq_true rfl) (c_sp_Node_pausesOf  hy6) (fun hby6 => ?_)
              cases hy7 : ep y6.2.2.2.2.1 v0 2 3 (.int y6.1) with
              | none =>
                rw [hy7] at hp
                cases hp
              | some y7 =>
                rw [hy7] at hp
                try dsimp only at hp
                refine ck_pE k_Node_init rfl rfl rfl trivial hy7 ?_
                refine ck_p (L' := [some (.ref v0), some (.int v1), some (.int v2), some (va_rf v3)]) (st' := [.ref v0]) k_Node_init rfl rfl ?_
                refine ck_p (L' := [some (.ref v0), some (.int v1), some (.int v2), some (va_rf v3)]) (st' := [.int v1, .ref v0]) k_Node_init rfl rfl ?_
                refine ck_p (L' := [some (.ref v0), some (.int v1), some (.int v2), some (va_rf v3)]) (st' := [.int v2, .int v1, .ref v0]) k_Node_init rfl rfl ?_
                refine ck_p (L' := [some (.ref v0), some (.int v1), some (.int v2), some (va_rf v3)]) (st' := [va_rf v3, .int v2, .int v1, .ref v0]) k_Node_init rfl (by cases v3 <;> rfl) ?_
                cases hy8 : sp_Node_codesAtOnce  v1 v2 v3 (y6.2.1, y6.2.2.1, y6.2.2.2.1, y7, y6.2.2.2.2.2.1, y6.2.2.2.2.2.2) with
                | none =>
                  rw [hy8] at hp
                  cases hp
                | some y8 =>
                  rw [hy8] at hp
                  try dsimp only at hp
                  refine ck_isB (M' := m_Node_codesAtOnce) (As := [.int v1, .int v2, va_rf v3]) k_Node_init rfl rfl rfl rfl rfl rfl (Nat.le_of_ble_eq_true rfl) (c_sp_Node_codesAtOnce  hy8) (fun hby8 => ?_)
                  cases hy9 : ep y8.2.2.2.2.1 v0 2 4 (.int y8.1) with
                  | none =>
                    rw [hy9] at hp
                    cases hp
                  | some y9 =>
                    rw [hy9] at hp
                    try dsimp only at hp
                    refine ck_pE k_Node_init rfl rfl rfl trivial hy9 ?_
                    cases hp
                    exact ck_ret (v := none) k_Node_init rfl rfl trivial rfl ⟨rfl, rfl⟩
          · skip
            rw [if_pos (show v1 = 1 from h5)] at hp
            refine ck_p (L' := [some (.ref v0), some (.int v1), some (.int v2), some (va_rf v3)]) (st' := [.int v2, .ref v0]) k_Node_init rfl rfl ?_
            refine ck_j k_Node_init rfl rfl ?_
            cases hy10 : ep y4 v0 2 3 (.int v2) with
            | none =>
              rw [hy10] at hp
              cases hp
            | some y10 =>
              rw [hy10] at hp
              try dsimp only at hp
              refine ck_pE k_Node_init rfl rfl rfl trivial hy10 ?_
              refine ck_p (L' := [some (.ref v0), some (.int v1), some (.int v2), some (va_rf v3)]) (st' := [.ref v0]) k_Node_init rfl rfl ?_
              refine ck_p (L' := [some (.ref v0), some (.int v1), some (.int v2), some (va_rf v3)]) (st' := [.int v1, .ref v0]) k_Node_init rfl rfl ?_
              refine ck_p (L' := [some (.ref v0), some (.int v1), some (.int v2), some (va_rf v3)]) (st' := [.int v2, .int v1, .ref v0]) k_Node_init rfl rfl ?_
              refine ck_p (L' := [some (.ref v0), some (.int v1), some (.int v2), some (va_rf v3)]) (st' := [va_rf v3, .int v2, .int v1, .ref v0]) k_Node_init rfl (by cases v3 <;> rfl) ?_
              cases hy11 : sp_Node_codesAtOnce  v1 v2 v3 (σ.1, σ.2.1, σ.2.2.1, y10, σ.2.2.2.2.1, σ.2.2.2.2.2) with
              | none =>
                rw [hy11] at hp
                cases hp
              | some y11 =>
                rw [hy11] at hp
                try dsimp only at hp
                refine ck_isB (M' := m_Node_codesAtOnce) (As := [.int v1, .int v2, va_rf v3]) k_Node_init rfl rfl rfl rfl rfl rfl (Nat.le_of_ble_eq_true rfl) (c_sp_Node_codesAtOnce  hy11) (fun hby11 => ?_)
                cases hy12 : ep y11.2.2.2.2.1 v0 2 4 (.int y11.1) with
                | none =>
                  rw [hy12] at hp
                  cases hp
                | some y12 =>
                  rw [hy12] at hp
                  try dsimp only at hp
                  refine ck_pE k_Node_init rfl rfl rfl trivial hy12 ?_
                  cases hp
                  exact ck_ret (v := none) k_Node_init rfl rfl trivial rfl ⟨rfl, rfl⟩
def sp_Prog_init  (v0 : Nat) (v1 : Int32) (v2 : Int32) (v3 : Int32) (v4 : Option Nat) (v5 : Option Nat) (σ : ck_S) : Option (ck_S) := (match ep σ.2.2.2.1 v0 3 0 (.int v1) with
  | none => none
  | some y1 => (match ep y1 v0 3 1 (.int v2) with
  | none => none
  | some y2 => (match ep y2 v0 3 2 (.int v3) with
  | none => none
  | some y3 => (match ep y3 v0 3 3 (va_rf v4) with
  | none => none
  | some y4 => (match ep y4 v0 3 4 (va_rf v5) with
  | none => none
  | some y5 => some (σ.1, σ.2.1, σ.2.2.1, y5, σ.2.2.2.2.1, σ.2.2.2.2.2))))))
theorem c_sp_Prog_init  {v0 : Nat} {v1 : Int32} {v2 : Int32} {v3 : Int32} {v4 : Option Nat} {v5 : Option Nat} {σ : ck_S} {r : ck_S} (hp : sp_Prog_init  v0 v1 v2 v3 v4 v5 σ = some r) : ck_Has l F (d + 1) m_Prog_init K a A [.ref v0, .int v1, .int v2, .int v3, va_rf v4, va_rf v5] σ (fun w σ' => w = none ∧ σ' = r) := by
  refine ck_meth (k := 0) (L := [some (.ref v0), some (.int v1), some (.int v2), some (.int v3), some (va_rf v4), some (va_rf v5)]) pn_Prog (by cases v4 <;> cases v5 <;> rfl) (by cases v4 <;> cases v5 <;> exact (Nat.le_of_ble_eq_true rfl)) ?_
  unfold sp_Prog_init at hp
  refine ck_p (L' := [some (.ref v0), some (.int v1), some (.int v2), some (.int v3), some (va_rf v4), some (va_rf v5)]) (st' := [.ref v0]) k_Prog_init rfl rfl ?_
  refine ck_oi k_Prog_init rfl rfl rfl (Nat.le_of_ble_eq_true rfl) ?_
  refine ck_p (L' := [some (.ref v0), some (.int v1), some (.int v2), some (.int v3), some (va_rf v4), some (va_rf v5)]) (st' := [.ref v0]) k_Prog_init rfl rfl ?_
  refine ck_p (L' := [some (.ref v0), some (.int v1), some (.int v2), some (.int v3), some (va_rf v4), some (va_rf v5)]) (st' := [.int v1, .ref v0]) k_Prog_init rfl rfl ?_
  cases hy1 : ep σ.2.2.2.1 v0 3 0 (.int v1) with
  | none =>
    rw [hy1] at hp
    cases hp
  | some y1 =>
    rw [hy1] at hp
    try dsimp only at hp
    refine ck_pE k_Prog_init rfl rfl rfl trivial hy1 ?_
    refine ck_p (L' := [some (.ref v0), some (.int v1), some (.int v2), some (.int v3), some (va_rf v4), some (va_rf v5)]) (st' := [.ref v0]) k_Prog_init rfl rfl ?_
    refine ck_p (L' := [some (.ref v0), some (.int v1), some (.int v2), some (.int v3), some (va_rf v4), some (va_rf v5)]) (st' := [.int v2, .ref v0]) k_Prog_init rfl rfl ?_
    cases hy2 : ep y1 v0 3 1 (.int v2) with
    | none =>
      rw [hy2] at hp
      cases hp
    | some y2 =>
      rw [hy2] at hp
      try dsimp only at hp
      refine ck_pE k_Prog_init rfl rfl rfl trivial hy2 ?_
      refine ck_p (L' := [some (.ref v0), some (.int v1), some (.int v2), some (.int v3), some (va_rf v4), some (va_rf v5)]) (st' := [.ref v0]) k_Prog_init rfl rfl ?_
      refine ck_p (L' := [some (.ref v0), some (.int v1), some (.int v2), some (.int v3), some (va_rf v4), some (va_rf v5)]) (st' := [.int v3, .ref v0]) k_Prog_init rfl rfl ?_
      cases hy3 : ep y2 v0 3 2 (.int v3) with
      | none =>
        rw [hy3] at hp
        cases hp
      | some y3 =>
        rw [hy3] at hp
        try dsimp only at hp
        refine ck_pE k_Prog_init rfl rfl rfl trivial hy3 ?_
        refine ck_p (L' := [some (.ref v0), some (.int v1), some (.int v2), some (.int v3), some (va_rf v4), some (va_rf v5)]) (st' := [.ref v0]) k_Prog_init rfl rfl ?_
        refine ck_p (L' := [some (.ref v0), some (.int v1), some (.int v2), some (.int v3), some (va_rf v4), some (va_rf v5)]) (st' := [va_rf v4, .ref v0]) k_Prog_init rfl (by cases v4 <;> rfl) ?_
        cases hy4 : ep y3 v0 3 3 (va_rf v4) with
        | none =>
          rw [hy4] at hp
          cases hp
        | some y4 =>
          rw [hy4] at hp
          try dsimp only at hp
          refine ck_pE k_Prog_init rfl rfl rfl (by cases v4 <;> exact trivial) hy4 ?_
          refine ck_p (L' := [some (.ref v0), some (.int v1), some (.int v2), some (.int v3), some (va_rf v4), some (va_rf v5)]) (st' := [.ref v0]) k_Prog_init rfl rfl ?_
          refine ck_p (L' := [some (.ref v0), some (.int v1), some (.int v2), some (.int v3), some (va_rf v4), some (va_rf v5)]) (st' := [va_rf v5, .ref v0]) k_Prog_init rfl (by cases v5 <;> rfl) ?_
          cases hy5 : ep y4 v0 3 4 (va_rf v5) with
          | none =>
            rw [hy5] at hp
            cases hp
          | some y5 =>
            rw [hy5] at hp
            try dsimp only at hp
            refine ck_pE k_Prog_init rfl rfl rfl (by cases v5 <;> exact trivial) hy5 ?_
            cases hp
            exact ck_ret (v := none) k_Prog_init rfl rfl trivial rfl ⟨rfl, rfl⟩
def sp_Inst_init  (v0 : Nat) (v1 : Option Nat) (σ : ck_S) : Option (ck_S) := (match ep σ.2.2.2.1 v0 1 1 (.int (-2)) with
  | none => none
  | some y1 => (match ep y1 v0 1 2 (.int 0) with
  | none => none
  | some y2 => (match ep y2 v0 1 3 (.int 0) with
  | none => none
  | some y3 => (match ep y3 v0 1 0 (va_rf v1) with
  | none => none
  | some y4 => some (σ.1, σ.2.1, σ.2.2.1, y4, σ.2.2.2.2.1, σ.2.2.2.2.2)))))
theorem c_sp_Inst_init  {v0 : Nat} {v1 : Option Nat} {σ : ck_S} {r : ck_S} (hp : sp_Inst_init  v0 v1 σ = some r) : ck_Has l F (d + 1) m_Inst_init K a A [.ref v0, va_rf v1] σ (fun w σ' => w = none ∧ σ' = r) := by
  refine ck_meth (k := 0) (L := [some (.ref v0), some (va_rf v1)]) pn_Inst (by cases v1 <;> rfl) (by cases v1 <;> exact (Nat.le_of_ble_eq_true rfl)) ?_
  unfold sp_Inst_init at hp
  refine ck_p (L' := [some (.ref v0), some (va_rf v1)]) (st' := [.ref v0]) k_Inst_init rfl rfl ?_
  refine ck_oi k_Inst_init rfl rfl rfl (Nat.le_of_ble_eq_true rfl) ?_
  refine ck_p (L' := [some (.ref v0), some (va_rf v1)]) (st' := [.ref v0]) k_Inst_init rfl rfl ?_
  refine ck_p (L' := [some (.ref v0), some (va_rf v1)]) (st' := [.int (-2), .ref v0]) k_Inst_init rfl rfl ?_
  cases hy1 : ep σ.2.2.2.1 v0 1 1 (.int (-2)) with
  | none =>
    rw [hy1] at hp
    cases hp
  | some y1 =>
    rw [hy1] at hp
    try dsimp only at hp
    refine ck_pE k_Inst_init rfl rfl rfl trivial hy1 ?_
    refine ck_p (L' := [some (.ref v0), some (va_rf v1)]) (st' := [.ref v0]) k_Inst_init rfl rfl ?_
    refine ck_p (L' := [some (.ref v0), some (va_rf v1)]) (st' := [.int 0, .ref v0]) k_Inst_init rfl rfl ?_
    cases hy2 : ep y1 v0 1 2 (.int 0) with
    | none =>
      rw [hy2] at hp
      cases hp
    | some y2 =>
      rw [hy2] at hp
      try dsimp only at hp
      refine ck_pE k_Inst_init rfl rfl rfl trivial hy2 ?_
      refine ck_p (L' := [some (.ref v0), some (va_rf v1)]) (st' := [.ref v0]) k_Inst_init rfl rfl ?_
      refine ck_p (L' := [some (.ref v0), some (va_rf v1)]) (st' := [.int 0, .ref v0]) k_Inst_init rfl rfl ?_
      cases hy3 : ep y2 v0 1 3 (.int 0) with
      | none =>
        rw [hy3] at hp
        cases hp
      | some y3 =>
        rw [hy3] at hp
        try dsimp only at hp
        refine ck_pE k_Inst_init rfl rfl rfl trivial hy3 ?_
        refine ck_p (L' := [some (.ref v0), some (va_rf v1)]) (st' := [.ref v0]) k_Inst_init rfl rfl ?_
        refine ck_p (L' := [some (.ref v0), some (va_rf v1)]) (st' := [va_rf v1, .ref v0]) k_Inst_init rfl (by cases v1 <;> rfl) ?_
        cases hy4 : ep y3 v0 1 0 (va_rf v1) with
        | none =>
          rw [hy4] at hp
          cases hp
        | some y4 =>
          rw [hy4] at hp
          try dsimp only at hp
          refine ck_pE k_Inst_init rfl rfl rfl (by cases v1 <;> exact trivial) hy4 ?_
          cases hp
          exact ck_ret (v := none) k_Inst_init rfl rfl trivial rfl ⟨rfl, rfl⟩
def sp_Prog_pausePlace  (v0 : Nat) (v1 : Int32) (σ : ck_S) : Option (Int32 × ck_S) := (if v1 < 100 then some ((-1), σ) else (match egR σ.2.2.2.1 v0 3 4 with
  | none => none
  | some y2 => (match y2 with
  | none => none
  | some b3 => (match el σ.2.2.2.1 b3 0 with
  | none => none
  | some y4 => (if (v1 - 100) < y4 then (match ea σ.2.2.2.1 b3 (v1 - 100) with
  | none => none
  | some y7 => some (y7, σ)) else some ((-1), σ))))))
theorem c_sp_Prog_pausePlace  {v0 : Nat} {v1 : Int32} {σ : ck_S} {r : Int32 × ck_S} (hp : sp_Prog_pausePlace  v0 v1 σ = some r) : ck_Has l F (d) m_Prog_pausePlace K a A [.ref v0, .int v1] σ (fun w σ' => w = some (.int r.1) ∧ σ' = r.2) := by
  refine ck_meth (k := 0) (L := [some (.ref v0), some (.int v1)]) pn_Prog rfl (Nat.le_of_ble_eq_true rfl) ?_
  unfold sp_Prog_pausePlace at hp
  refine ck_p (L' := [some (.ref v0), some (.int v1)]) (st' := [.int v1]) k_Prog_pausePlace rfl rfl ?_
  refine ck_p (L' := [some (.ref v0), some (.int v1)]) (st' := [.int 100, .int v1]) k_Prog_pausePlace rfl rfl ?_
  refine ck_ic k_Prog_pausePlace rfl rfl rfl (fun h1 => ?_) (fun h1 => ?_)
  · skip
    rw [if_pos (show v1 < 100 from h1)] at hp
    refine ck_p (L' := [some (.ref v0), some (.int v1)]) (st' := [.int (-1)]) k_Prog_pausePlace rfl rfl ?_
    cases hp
    exact ck_ret (v := some (.int _)) k_Prog_pausePlace rfl rfl trivial rfl ⟨rfl, rfl⟩
  · skip
    rw [if_neg (show ¬ (v1 < 100) from h1)] at hp
    refine ck_p (L' := [some (.ref v0), some (.int v1)]) (st' := [.int v1]) k_Prog_pausePlace rfl rfl ?_
    refine ck_p (L' := [some (.ref v0), some (.int v1)]) (st' := [.int 100, .int v1]) k_Prog_pausePlace rfl rfl ?_
    refine ck_p (L' := [some (.ref v0), some (.int v1)]) (st' := [.int (v1 - 100)]) k_Prog_pausePlace rfl rfl ?_
    refine ck_p (L' := [some (.ref v0), some (.int v1)]) (st' := [.ref v0, .int (v1 - 100)]) k_Prog_pausePlace rfl rfl ?_
    cases hy2 : egR σ.2.2.2.1 v0 3 4 with
    | none =>
      rw [hy2] at hp
      cases hp
    | some y2 =>
      rw [hy2] at hp
      try dsimp only at hp
      refine ck_gE k_Prog_pausePlace rfl rfl rfl (egR_of hy2) ?_
      cases y2 with
      | none =>
        try dsimp only at hp
        cases hp
      | some b3 =>
        try dsimp only at hp
        cases hy4 : el σ.2.2.2.1 b3 0 with
        | none =>
          rw [hy4] at hp
          cases hp
        | some y4 =>
          rw [hy4] at hp
          try dsimp only at hp
          refine ck_lE k_Prog_pausePlace rfl rfl rfl hy4 ?_
          refine ck_ic k_Prog_pausePlace rfl rfl rfl (fun h5 => ?_) (fun h5 => ?_)
          · skip
            rw [if_pos (show (v1 - 100) < y4 from h5)] at hp
            refine ck_p (L' := [some (.ref v0), some (.int v1)]) (st' := [.ref v0]) k_Prog_pausePlace rfl rfl ?_
            refine ck_gE k_Prog_pausePlace rfl rfl rfl (egR_of hy2) ?_
            refine ck_p (L' := [some (.ref v0), some (.int v1)]) (st' := [.int v1, .ref b3]) k_Prog_pausePlace rfl rfl ?_
            refine ck_p (L' := [some (.ref v0), some (.int v1)]) (st' := [.int 100, .int v1, .ref b3]) k_Prog_pausePlace rfl rfl ?_
            refine ck_p (L' := [some (.ref v0), some (.int v1)]) (st' := [.int (v1 - 100), .ref b3]) k_Prog_pausePlace rfl rfl ?_
            cases hy7 : ea σ.2.2.2.1 b3 (v1 - 100) with
            | none =>
              rw [hy7] at hp
              cases hp
            | some y7 =>
              rw [hy7] at hp
              try dsimp only at hp
              refine ck_la k_Prog_pausePlace rfl rfl hy7 ?_
              cases hp
              exact ck_ret (v := some (.int _)) k_Prog_pausePlace rfl rfl trivial rfl ⟨rfl, rfl⟩
          · skip
            rw [if_neg (show ¬ ((v1 - 100) < y4) from h5)] at hp
            refine ck_p (L' := [some (.ref v0), some (.int v1)]) (st' := [.int (-1)]) k_Prog_pausePlace rfl rfl ?_
            cases hp
            exact ck_ret (v := some (.int _)) k_Prog_pausePlace rfl rfl trivial rfl ⟨rfl, rfl⟩
def sp_Prog_told  (v0 : Nat) (v1 : Int32) (σ : ck_S) : Option (Int32 × ck_S) := (if v1 = 0 then (match egI σ.2.2.2.1 v0 3 0 with
  | none => none
  | some y2 => some (y2, σ)) else (if v1 = 1 then (match egI σ.2.2.2.1 v0 3 1 with
  | none => none
  | some y4 => some (y4, σ)) else (if v1 = 2 then (match egI σ.2.2.2.1 v0 3 2 with
  | none => none
  | some y6 => some (y6, σ)) else (if v1 = 3 then (match egR σ.2.2.2.1 v0 3 4 with
  | none => none
  | some y8 => (match y8 with
  | none => none
  | some b9 => (match el σ.2.2.2.1 b9 0 with
  | none => none
  | some y10 => some (y10, σ)))) else (if v1 = 4 then (match egR σ.2.2.2.1 v0 3 3 with
  | none => none
  | some y12 => (match y12 with
  | none => none
  | some b13 => (match egI σ.2.2.2.1 b13 2 4 with
  | none => none
  | some y14 => some (y14, σ)))) else (if eo σ.2.2.2.1 v0 3 = true then (match sp_Prog_pausePlace  v0 v1 σ with
  | none => none
  | some y16 => some (y16.1, y16.2)) else none))))))
theorem c_sp_Prog_told  {v0 : Nat} {v1 : Int32} {σ : ck_S} {r : Int32 × ck_S} (hp : sp_Prog_told  v0 v1 σ = some r) : ck_Has l F (d + 1) m_Prog_told K a A [.ref v0, .int v1] σ (fun w σ' => w = some (.int r.1) ∧ σ' = r.2) := by
  refine ck_meth (k := 0) (L := [some (.ref v0), some (.int v1)]) pn_Prog rfl (Nat.le_of_ble_eq_true rfl) ?_
  unfold sp_Prog_told at hp
  refine ck_p (L' := [some (.ref v0), some (.int v1)]) (st' := [.int v1]) k_Prog_told rfl rfl ?_
  by_cases h1 : v1 = 0
  · rw [if_pos h1] at hp
    refine ck_tJ (tgt := 36) k_Prog_told rfl rfl h1 (by decide) (by decide) rfl rfl ?_
    refine ck_p (L' := [some (.ref v0), some (.int v1)]) (st' := [.ref v0]) k_Prog_told rfl rfl ?_
    cases hy2 : egI σ.2.2.2.1 v0 3 0 with
    | none =>
      rw [hy2] at hp
      cases hp
    | some y2 =>
      rw [hy2] at hp
      try dsimp only at hp
      refine ck_gE k_Prog_told rfl rfl rfl (egI_of hy2) ?_
      cases hp
      exact ck_ret (v := some (.int _)) k_Prog_told rfl rfl trivial rfl ⟨rfl, rfl⟩
  · rw [if_neg h1] at hp
    by_cases h3 : v1 = 1
    · rw [if_pos h3] at hp
      refine ck_tJ (tgt := 41) k_Prog_told rfl rfl h3 (by decide) (by decide) rfl rfl ?_
      refine ck_p (L' := [some (.ref v0), some (.int v1)]) (st' := [.ref v0]) k_Prog_told rfl rfl ?_
      cases hy4 : egI σ.2.2.2.1 v0 3 1 with
      | none =>
        rw [hy4] at hp
        cases hp
      | some y4 =>
        rw [hy4] at hp
        try dsimp only at hp
        refine ck_gE k_Prog_told rfl rfl rfl (egI_of hy4) ?_
        cases hp
        exact ck_ret (v := some (.int _)) k_Prog_told rfl rfl trivial rfl ⟨rfl, rfl⟩
    · rw [if_neg h3] at hp
      by_cases h5 : v1 = 2
      · rw [if_pos h5] at hp
        refine ck_tJ (tgt := 46) k_Prog_told rfl rfl h5 (by decide) (by decide) rfl rfl ?_
        refine ck_p (L' := [some (.ref v0), some (.int v1)]) (st' := [.ref v0]) k_Prog_told rfl rfl ?_
        cases hy6 : egI σ.2.2.2.1 v0 3 2 with
        | none =>
          rw [hy6] at hp
          cases hp
        | some y6 =>
          rw [hy6] at hp
          try dsimp only at hp
          refine ck_gE k_Prog_told rfl rfl rfl (egI_of hy6) ?_
          cases hp
          exact ck_ret (v := some (.int _)) k_Prog_told rfl rfl trivial rfl ⟨rfl, rfl⟩
      · rw [if_neg h5] at hp
        by_cases h7 : v1 = 3
        · rw [if_pos h7] at hp
          refine ck_tJ (tgt := 51) k_Prog_told rfl rfl h7 (by decide) (by decide) rfl rfl ?_
          refine ck_p (L' := [some (.ref v0), some (.int v1)]) (st' := [.ref v0]) k_Prog_told rfl rfl ?_
          cases hy8 : egR σ.2.2.2.1 v0 3 4 with
          | none =>
            rw [hy8] at hp
            cases hp
          | some y8 =>
            rw [hy8] at hp
            try dsimp only at hp
            refine ck_gE k_Prog_told rfl rfl rfl (egR_of hy8) ?_
            cases y8 with
            | none =>
              try dsimp only at hp
              cases hp
            | some b9 =>
              try dsimp only at hp
              cases hy10 : el σ.2.2.2.1 b9 0 with
              | none =>
                rw [hy10] at hp
                cases hp
              | some y10 =>
                rw [hy10] at hp
                try dsimp only at hp
                refine ck_lE k_Prog_told rfl rfl rfl hy10 ?_
                cases hp
                exact ck_ret (v := some (.int _)) k_Prog_told rfl rfl trivial rfl ⟨rfl, rfl⟩
        · rw [if_neg h7] at hp
          by_cases h11 : v1 = 4
          · rw [if_pos h11] at hp
            refine ck_tJ (tgt := 57) k_Prog_told rfl rfl h11 (by decide) (by decide) rfl rfl ?_
            refine ck_p (L' := [some (.ref v0), some (.int v1)]) (st' := [.ref v0]) k_Prog_told rfl rfl ?_
            cases hy12 : egR σ.2.2.2.1 v0 3 3 with
            | none =>
              rw [hy12] at hp
              cases hp
            | some y12 =>
              rw [hy12] at hp
              try dsimp only at hp
              refine ck_gE k_Prog_told rfl rfl rfl (egR_of hy12) ?_
              cases y12 with
              | none =>
                try dsimp only at hp
                cases hp
              | some b13 =>
                try dsimp only at hp
                cases hy14 : egI σ.2.2.2.1 b13 2 4 with
                | none =>
                  rw [hy14] at hp
                  cases hp
                | some y14 =>
                  rw [hy14] at hp
                  try dsimp only at hp
                  refine ck_gE k_Prog_told rfl rfl rfl (egI_of hy14) ?_
                  cases hp
                  exact ck_ret (v := some (.int _)) k_Prog_told rfl rfl trivial rfl ⟨rfl, rfl⟩
          · rw [if_neg h11] at hp
            refine ck_tO (tgt := 65) k_Prog_told rfl rfl (sw_Prog_told h1 h3 h5 h7 h11) rfl ?_
            refine ck_p (L' := [some (.ref v0), some (.int v1)]) (st' := [.ref v0]) k_Prog_told rfl rfl ?_
            refine ck_p (L' := [some (.ref v0), some (.int v1)]) (st' := [.int v1, .ref v0]) k_Prog_told rfl rfl ?_
            by_cases g15 : eo σ.2.2.2.1 v0 3 = true
            · rw [if_pos g15] at hp
              cases hy16 : sp_Prog_pausePlace  v0 v1 σ with
              | none =>
                rw [hy16] at hp
                cases hp
              | some y16 =>
                rw [hy16] at hp
                try dsimp only at hp
                refine ck_ivO (M' := m_Prog_pausePlace) (As := [.int v1]) k_Prog_told rfl rfl rfl rfl rfl g15 rfl rfl (Nat.le_of_ble_eq_true rfl) (c_sp_Prog_pausePlace  hy16) (fun hby16 => ?_)
                cases hp
                exact ck_ret (v := some (.int _)) k_Prog_told rfl rfl trivial rfl ⟨rfl, rfl⟩
            · rw [if_neg g15] at hp
              cases hp
def sp_Arrays_fill_2_5   : Nat → Int32 → Int32 → Int32 → ck_S → Option (ck_S)
  | 0, _, _, _, _ => none
  | m + 1, v1, v2, v3, σ => (if v3 ≤ v2 then some σ else (if gi v2 5 = true then sp_Arrays_fill_2_5    m v1 (v2 + 1) v3 (σ.1, (gm_up σ.2.1 2 (upd (σ.2.1 2) v2.toNatClampNeg v1)), σ.2.2.1, σ.2.2.2.1, σ.2.2.2.2.1, σ.2.2.2.2.2) else none))
theorem c_sp_Arrays_fill_2_5  {r : ck_S} : ∀ (m : Nat) (v1 : Int32) (v2 : Int32) (v3 : Int32) (σ : ck_S), sp_Arrays_fill_2_5   m v1 v2 v3 σ = some r → ck_Go l F (d) m_Arrays_fill rd_K a A 5 ([some (.ref (A 2)), some (.int v1), some (.int v2), some (.int v3)]) [] σ (fun w σ' => w = none ∧ σ' = r) := by
  intro m
  induction m with
  | zero => intro v1 v2 v3 σ hp; cases hp
  | succ m ihm =>
    intro v1 v2 v3 σ hp
    unfold sp_Arrays_fill_2_5 at hp
    refine ck_p (L' := [some (.ref (A 2)), some (.int v1), some (.int v2), some (.int v3)]) (st' := [.int v2]) k_Arrays_fill rfl rfl ?_
    refine ck_p (L' := [some (.ref (A 2)), some (.int v1), some (.int v2), some (.int v3)]) (st' := [.int v3, .int v2]) k_Arrays_fill rfl rfl ?_
    refine ck_ic k_Arrays_fill rfl rfl rfl (fun h1 => ?_) (fun h1 => ?_)
    · skip
      rw [if_pos (show v3 ≤ v2 from h1)] at hp
      cases hp
      exact ck_ret (v := none) k_Arrays_fill rfl rfl trivial rfl ⟨rfl, rfl⟩
    · skip
      rw [if_neg (show ¬ (v3 ≤ v2) from h1)] at hp
      refine ck_p (L' := [some (.ref (A 2)), some (.int v1), some (.int v2), some (.int v3)]) (st' := [.ref (A 2)]) k_Arrays_fill rfl rfl ?_
      refine ck_p (L' := [some (.ref (A 2)), some (.int v1), some (.int v2), some (.int v3)]) (st' := [.int v2, .ref (A 2)]) k_Arrays_fill rfl rfl ?_
      refine ck_p (L' := [some (.ref (A 2)), some (.int v1), some (.int v2), some (.int v3)]) (st' := [.int v1, .int v2, .ref (A 2)]) k_Arrays_fill rfl rfl ?_
      by_cases g2 : gi v2 5 = true
      · rw [if_pos g2] at hp
        refine ck_sto k_Arrays_fill rfl rfl rfl (gi_in g2) (by decide) ?_
        refine ck_p (L' := [some (.ref (A 2)), some (.int v1), some (.int (v2 + 1)), some (.int v3)]) (st' := []) k_Arrays_fill rfl rfl ?_
        refine ck_j k_Arrays_fill rfl rfl ?_
        exact ihm _ _ _ _ hp
      · rw [if_neg g2] at hp
        cases hp
def sp_Arrays_fill_2  (v1 : Int32) (σ : ck_S) : Option (ck_S) := sp_Arrays_fill_2_5   2601 v1 0 5 σ
theorem c_sp_Arrays_fill_2  {v1 : Int32} {σ : ck_S} {r : ck_S} (hp : sp_Arrays_fill_2  v1 σ = some r) : ck_Has l F (d) m_Arrays_fill rd_K a A [.ref (A 2), .int v1] σ (fun w σ' => w = none ∧ σ' = r) := by
  refine ck_meth (k := 2) (L := [some (.ref (A 2)), some (.int v1), none, none]) pn_Arrays rfl (Nat.le_of_ble_eq_true rfl) ?_
  unfold sp_Arrays_fill_2 at hp
  refine ck_p (L' := [some (.ref (A 2)), some (.int v1), none, none]) (st' := [.int 0]) k_Arrays_fill rfl rfl ?_
  refine ck_p (L' := [some (.ref (A 2)), some (.int v1), some (.int 0), none]) (st' := []) k_Arrays_fill rfl rfl ?_
  refine ck_p (L' := [some (.ref (A 2)), some (.int v1), some (.int 0), none]) (st' := [.ref (A 2)]) k_Arrays_fill rfl rfl ?_
  refine ck_ln k_Arrays_fill rfl rfl rfl (by decide) ?_
  refine ck_p (L' := [some (.ref (A 2)), some (.int v1), some (.int 0), some (.int 5)]) (st' := []) k_Arrays_fill rfl rfl ?_
  exact c_sp_Arrays_fill_2_5   _ _ _ _ _ hp
def sp_Arrays_fill_3_5   : Nat → Int32 → Int32 → Int32 → ck_S → Option (ck_S)
  | 0, _, _, _, _ => none
  | m + 1, v1, v2, v3, σ => (if v3 ≤ v2 then some σ else (if gi v2 26 = true then sp_Arrays_fill_3_5    m v1 (v2 + 1) v3 (σ.1, (gm_up σ.2.1 3 (upd (σ.2.1 3) v2.toNatClampNeg v1)), σ.2.2.1, σ.2.2.2.1, σ.2.2.2.2.1, σ.2.2.2.2.2) else none))
theorem c_sp_Arrays_fill_3_5  {r : ck_S} : ∀ (m : Nat) (v1 : Int32) (v2 : Int32) (v3 : Int32) (σ : ck_S), sp_Arrays_fill_3_5   m v1 v2 v3 σ = some r → ck_Go l F (d) m_Arrays_fill rd_K a A 5 ([some (.ref (A 3)), some (.int v1), some (.int v2), some (.int v3)]) [] σ (fun w σ' => w = none ∧ σ' = r) := by
  intro m
  induction m with
  | zero => intro v1 v2 v3 σ hp; cases hp
  | succ m ihm =>
    intro v1 v2 v3 σ hp
    unfold sp_Arrays_fill_3_5 at hp
    refine ck_p (L' := [some (.ref (A 3)), some (.int v1), some (.int v2), some (.int v3)]) (st' := [.int v2]) k_Arrays_fill rfl rfl ?_
    refine ck_p (L' := [some (.ref (A 3)), some (.int v1), some (.int v2), some (.int v3)]) (st' := [.int v3, .int v2]) k_Arrays_fill rfl rfl ?_
    refine ck_ic k_Arrays_fill rfl rfl rfl (fun h1 => ?_) (fun h1 => ?_)
    · skip
      rw [if_pos (show v3 ≤ v2 from h1)] at hp
      cases hp
      exact ck_ret (v := none) k_Arrays_fill rfl rfl trivial rfl ⟨rfl, rfl⟩
    · skip
      rw [if_neg (show ¬ (v3 ≤ v2) from h1)] at hp
      refine ck_p (L' := [some (.ref (A 3)), some (.int v1), some (.int v2), some (.int v3)]) (st' := [.ref (A 3)]) k_Arrays_fill rfl rfl ?_
      refine ck_p (L' := [some (.ref (A 3)), some (.int v1), some (.int v2), some (.int v3)]) (st' := [.int v2, .ref (A 3)]) k_Arrays_fill rfl rfl ?_
      refine ck_p (L' := [some (.ref (A 3)), some (.int v1), some (.int v2), some (.int v3)]) (st' := [.int v1, .int v2, .ref (A 3)]) k_Arrays_fill rfl rfl ?_
      by_cases g2 : gi v2 26 = true
      · rw [if_pos g2] at hp
        refine ck_sto k_Arrays_fill rfl rfl rfl (gi_in g2) (by decide) ?_
        refine ck_p (L' := [some (.ref (A 3)), some (.int v1), some (.int (v2 + 1)), some (.int v3)]) (st' := []) k_Arrays_fill rfl rfl ?_
        refine ck_j k_Arrays_fill rfl rfl ?_
        exact ihm _ _ _ _ hp
      · rw [if_neg g2] at hp
        cases hp
def sp_Arrays_fill_3  (v1 : Int32) (σ : ck_S) : Option (ck_S) := sp_Arrays_fill_3_5   2601 v1 0 26 σ
theorem c_sp_Arrays_fill_3  {v1 : Int32} {σ : ck_S} {r : ck_S} (hp : sp_Arrays_fill_3  v1 σ = some r) : ck_Has l F (d) m_Arrays_fill rd_K a A [.ref (A 3), .int v1] σ (fun w σ' => w = none ∧ σ' = r) := by
  refine ck_meth (k := 2) (L := [some (.ref (A 3)), some (.int v1), none, none]) pn_Arrays rfl (Nat.le_of_ble_eq_true rfl) ?_
  unfold sp_Arrays_fill_3 at hp
  refine ck_p (L' := [some (.ref (A 3)), some (.int v1), none, none]) (st' := [.int 0]) k_Arrays_fill rfl rfl ?_
  refine ck_p (L' := [some (.ref (A 3)), some (.int v1), some (.int 0), none]) (st' := []) k_Arrays_fill rfl rfl ?_
  refine ck_p (L' := [some (.ref (A 3)), some (.int v1), some (.int 0), none]) (st' := [.ref (A 3)]) k_Arrays_fill rfl rfl ?_
  refine ck_ln k_Arrays_fill rfl rfl rfl (by decide) ?_
  refine ck_p (L' := [some (.ref (A 3)), some (.int v1), some (.int 0), some (.int 26)]) (st' := []) k_Arrays_fill rfl rfl ?_
  exact c_sp_Arrays_fill_3_5   _ _ _ _ _ hp
def sp_Rd_hasRoomFor  (v1 : Int32) (σ : ck_S) : Option (Int32 × ck_S) := (if (500 - (σ.1 6)) < v1 then some (0, σ) else some (1, σ))
theorem c_sp_Rd_hasRoomFor  {v1 : Int32} {σ : ck_S} {r : Int32 × ck_S} (hp : sp_Rd_hasRoomFor  v1 σ = some r) : ck_Has l F (d) m_Rd_hasRoomFor rd_K a A [.ref a, .int v1] σ (fun w σ' => w = some (.int r.1) ∧ σ' = r.2) := by
  refine ck_meth (k := 0) (L := [some (.ref a), some (.int v1)]) pn_Rd rfl (Nat.le_of_ble_eq_true rfl) ?_
  unfold sp_Rd_hasRoomFor at hp
  refine ck_p (L' := [some (.ref a), some (.int v1)]) (st' := [.int v1]) k_Rd_hasRoomFor rfl rfl ?_
  refine ck_p (L' := [some (.ref a), some (.int v1)]) (st' := [.int 500, .int v1]) k_Rd_hasRoomFor rfl rfl ?_
  refine ck_p (L' := [some (.ref a), some (.int v1)]) (st' := [.ref a, .int 500, .int v1]) k_Rd_hasRoomFor rfl rfl ?_
  refine ck_g k_Rd_hasRoomFor rfl rfl rfl rfl ?_
  refine ck_p (L' := [some (.ref a), some (.int v1)]) (st' := [.int (500 - (σ.1 6)), .int v1]) k_Rd_hasRoomFor rfl rfl ?_
  refine ck_ic k_Rd_hasRoomFor rfl rfl rfl (fun h1 => ?_) (fun h1 => ?_)
  · skip
    rw [if_pos (show (500 - (σ.1 6)) < v1 from h1)] at hp
    refine ck_p (L' := [some (.ref a), some (.int v1)]) (st' := [.int 0]) k_Rd_hasRoomFor rfl rfl ?_
    cases hp
    exact ck_ret (v := some (.int _)) k_Rd_hasRoomFor rfl rfl (Or.inl rfl) rfl ⟨rfl, rfl⟩
  · skip
    rw [if_neg (show ¬ ((500 - (σ.1 6)) < v1) from h1)] at hp
    refine ck_p (L' := [some (.ref a), some (.int v1)]) (st' := [.int 1]) k_Rd_hasRoomFor rfl rfl ?_
    refine ck_j k_Rd_hasRoomFor rfl rfl ?_
    cases hp
    exact ck_ret (v := some (.int _)) k_Rd_hasRoomFor rfl rfl (Or.inr rfl) rfl ⟨rfl, rfl⟩
def sp_Rd_append  (v1 : Int32) (σ : ck_S) : Option (ck_S) := (if (500 : Int32) ≤ (σ.1 6) then some σ else (if gi (σ.1 6) 500 = true then some ((upd σ.1 6 ((σ.1 6) + 1)), (gm_up σ.2.1 1 (upd (σ.2.1 1) (σ.1 6).toNatClampNeg (vp_nar .char v1))), σ.2.2.1, σ.2.2.2.1, σ.2.2.2.2.1, σ.2.2.2.2.2) else none))
theorem c_sp_Rd_append  {v1 : Int32} {σ : ck_S} {r : ck_S} (hp : sp_Rd_append  v1 σ = some r) : ck_Has l F (d) m_Rd_append rd_K a A [.ref a, .int v1] σ (fun w σ' => w = none ∧ σ' = r) := by
  refine ck_meth (k := 0) (L := [some (.ref a), some (.int v1)]) pn_Rd rfl (Nat.le_of_ble_eq_true rfl) ?_
  unfold sp_Rd_append at hp
  refine ck_p (L' := [some (.ref a), some (.int v1)]) (st' := [.ref a]) k_Rd_append rfl rfl ?_
  refine ck_g k_Rd_append rfl rfl rfl rfl ?_
  refine ck_p (L' := [some (.ref a), some (.int v1)]) (st' := [.ref a, .int (σ.1 6)]) k_Rd_append rfl rfl ?_
  refine ck_g k_Rd_append rfl rfl rfl rfl ?_
  refine ck_ln k_Rd_append rfl rfl rfl (by decide) ?_
  refine ck_ic k_Rd_append rfl rfl rfl (fun h1 => ?_) (fun h1 => ?_)
  · skip
    rw [if_pos (show (500 : Int32) ≤ (σ.1 6) from h1)] at hp
    cases hp
    exact ck_ret (v := none) k_Rd_append rfl rfl trivial rfl ⟨rfl, rfl⟩
  · skip
    rw [if_neg (show ¬ ((500 : Int32) ≤ (σ.1 6)) from h1)] at hp
    refine ck_p (L' := [some (.ref a), some (.int v1)]) (st' := [.ref a]) k_Rd_append rfl rfl ?_
    refine ck_g k_Rd_append rfl rfl rfl rfl ?_
    refine ck_p (L' := [some (.ref a), some (.int v1)]) (st' := [.ref a, .ref (A 1)]) k_Rd_append rfl rfl ?_
    refine ck_g k_Rd_append rfl rfl rfl rfl ?_
    refine ck_p (L' := [some (.ref a), some (.int v1)]) (st' := [.int v1, .int (σ.1 6), .ref (A 1)]) k_Rd_append rfl rfl ?_
    by_cases g2 : gi (σ.1 6) 500 = true
    · rw [if_pos g2] at hp
      refine ck_stc k_Rd_append rfl rfl rfl (gi_in g2) (by decide) ?_
      refine ck_p (L' := [some (.ref a), some (.int v1)]) (st' := [.ref a]) k_Rd_append rfl rfl ?_
      refine ck_p (L' := [some (.ref a), some (.int v1)]) (st' := [.ref a, .ref a]) k_Rd_append rfl rfl ?_
      refine ck_g k_Rd_append rfl rfl rfl rfl ?_
      refine ck_p (L' := [some (.ref a), some (.int v1)]) (st' := [.int 1, .int (σ.1 6), .ref a]) k_Rd_append rfl rfl ?_
      refine ck_p (L' := [some (.ref a), some (.int v1)]) (st' := [.int ((σ.1 6) + 1), .ref a]) k_Rd_append rfl rfl ?_
      refine ck_pt k_Rd_append rfl rfl rfl trivial (Nat.le_of_ble_eq_true rfl) rfl ?_
      cases hp
      exact ck_ret (v := none) k_Rd_append rfl rfl trivial rfl ⟨rfl, rfl⟩
    · rw [if_neg g2] at hp
      cases hp
def sp_Rd_faultKind_2   : Nat → Int32 → ck_S → Option (Int32 × ck_S)
  | 0, _, _ => none
  | m + 1, v1, σ => (if (4 : Int32) < v1 then some (0, σ) else (if gi v1 5 = true then (if ((σ.2.1 2) v1.toNatClampNeg) = 501 then sp_Rd_faultKind_2    m (v1 + 1) σ else some (v1, σ)) else none))
theorem c_sp_Rd_faultKind_2  {r : Int32 × ck_S} : ∀ (m : Nat) (v1 : Int32) (σ : ck_S), sp_Rd_faultKind_2   m v1 σ = some r → ck_Go l F (d) m_Rd_faultKind rd_K a A 2 ([some (.ref a), some (.int v1)]) [] σ (fun w σ' => w = some (.int r.1) ∧ σ' = r.2) := by
  intro m
  induction m with
  | zero => intro v1 σ hp; cases hp
  | succ m ihm =>
    intro v1 σ hp
    unfold sp_Rd_faultKind_2 at hp
    refine ck_p (L' := [some (.ref a), some (.int v1)]) (st' := [.int v1]) k_Rd_faultKind rfl rfl ?_
    refine ck_p (L' := [some (.ref a), some (.int v1)]) (st' := [.int 4, .int v1]) k_Rd_faultKind rfl rfl ?_
    refine ck_ic k_Rd_faultKind rfl rfl rfl (fun h1 => ?_) (fun h1 => ?_)
    · skip
      rw [if_pos (show (4 : Int32) < v1 from h1)] at hp
      refine ck_p (L' := [some (.ref a), some (.int v1)]) (st' := [.int 0]) k_Rd_faultKind rfl rfl ?_
      cases hp
      exact ck_ret (v := some (.int _)) k_Rd_faultKind rfl rfl trivial rfl ⟨rfl, rfl⟩
    · skip
      rw [if_neg (show ¬ ((4 : Int32) < v1) from h1)] at hp
      refine ck_p (L' := [some (.ref a), some (.int v1)]) (st' := [.ref a]) k_Rd_faultKind rfl rfl ?_
      refine ck_g k_Rd_faultKind rfl rfl rfl rfl ?_
      refine ck_p (L' := [some (.ref a), some (.int v1)]) (st' := [.int v1, .ref (A 2)]) k_Rd_faultKind rfl rfl ?_
      by_cases g2 : gi v1 5 = true
      · rw [if_pos g2] at hp
        refine ck_ld k_Rd_faultKind rfl rfl rfl (gi_in g2) (by decide) ?_
        refine ck_p (L' := [some (.ref a), some (.int v1)]) (st' := [.int 501, .int ((σ.2.1 2) v1.toNatClampNeg)]) k_Rd_faultKind rfl rfl ?_
        refine ck_ic k_Rd_faultKind rfl rfl rfl (fun h3 => ?_) (fun h3 => ?_)
        · skip
          rw [if_pos (show ((σ.2.1 2) v1.toNatClampNeg) = 501 from h3)] at hp
          refine ck_p (L' := [some (.ref a), some (.int (v1 + 1))]) (st' := []) k_Rd_faultKind rfl rfl ?_
          refine ck_j k_Rd_faultKind rfl rfl ?_
          exact ihm _ _ hp
        · skip
          rw [if_neg (show ¬ (((σ.2.1 2) v1.toNatClampNeg) = 501) from h3)] at hp
          refine ck_p (L' := [some (.ref a), some (.int v1)]) (st' := [.int v1]) k_Rd_faultKind rfl rfl ?_
          cases hp
          exact ck_ret (v := some (.int _)) k_Rd_faultKind rfl rfl trivial rfl ⟨rfl, rfl⟩
      · rw [if_neg g2] at hp
        cases hp
def sp_Rd_faultKind   (σ : ck_S) : Option (Int32 × ck_S) := sp_Rd_faultKind_2   2601 1 σ
theorem c_sp_Rd_faultKind   {σ : ck_S} {r : Int32 × ck_S} (hp : sp_Rd_faultKind   σ = some r) : ck_Has l F (d) m_Rd_faultKind rd_K a A [.ref a] σ (fun w σ' => w = some (.int r.1) ∧ σ' = r.2) := by
  refine ck_meth (k := 1) (L := [some (.ref a), none]) pn_Rd rfl (Nat.le_of_ble_eq_true rfl) ?_
  unfold sp_Rd_faultKind at hp
  refine ck_p (L' := [some (.ref a), none]) (st' := [.int 1]) k_Rd_faultKind rfl rfl ?_
  refine ck_p (L' := [some (.ref a), some (.int 1)]) (st' := []) k_Rd_faultKind rfl rfl ?_
  exact c_sp_Rd_faultKind_2   _ _ _ hp
def sp_Rd_faultPlace   (σ : ck_S) : Option (Int32 × ck_S) := (match sp_Rd_faultKind   σ with
  | none => none
  | some y1 => (if y1.1 = 0 then some (0, y1.2) else (if gi y1.1 5 = true then some (((y1.2.2.1 2) y1.1.toNatClampNeg), y1.2) else none)))
theorem c_sp_Rd_faultPlace   {σ : ck_S} {r : Int32 × ck_S} (hp : sp_Rd_faultPlace   σ = some r) : ck_Has l F (d + 1) m_Rd_faultPlace rd_K a A [.ref a] σ (fun w σ' => w = some (.int r.1) ∧ σ' = r.2) := by
  refine ck_meth (k := 1) (L := [some (.ref a), none]) pn_Rd rfl (Nat.le_of_ble_eq_true rfl) ?_
  unfold sp_Rd_faultPlace at hp
  refine ck_p (L' := [some (.ref a), none]) (st' := [.ref a]) k_Rd_faultPlace rfl rfl ?_
  cases hy1 : sp_Rd_faultKind   σ with
  | none =>
    rw [hy1] at hp
    cases hp
  | some y1 =>
    rw [hy1] at hp
    try dsimp only at hp
    refine ck_ivB (M' := m_Rd_faultKind) (As := []) k_Rd_faultPlace rfl rfl rfl rfl rfl rfl rfl (Nat.le_of_ble_eq_true rfl) (c_sp_Rd_faultKind  hy1) (fun hby1 => ?_)
    refine ck_p (L' := [some (.ref a), some (.int y1.1)]) (st' := []) k_Rd_faultPlace rfl rfl ?_
    refine ck_p (L' := [some (.ref a), some (.int y1.1)]) (st' := [.int y1.1]) k_Rd_faultPlace rfl rfl ?_
    refine ck_if k_Rd_faultPlace rfl rfl rfl (fun h2 => ?_) (fun h2 => ?_)
    · skip
      rw [if_neg (show ¬ (y1.1 = 0) from h2)] at hp
      refine ck_p (L' := [some (.ref a), some (.int y1.1)]) (st' := [.ref a]) k_Rd_faultPlace rfl rfl ?_
      refine ck_g k_Rd_faultPlace rfl rfl rfl rfl ?_
      refine ck_p (L' := [some (.ref a), some (.int y1.1)]) (st' := [.int y1.1, .ref (A 2)]) k_Rd_faultPlace rfl rfl ?_
      by_cases g3 : gi y1.1 5 = true
      · rw [if_pos g3] at hp
        refine ck_ld k_Rd_faultPlace rfl rfl rfl (gi_in g3) (by decide) ?_
        cases hp
        exact ck_ret (v := some (.int _)) k_Rd_faultPlace rfl rfl trivial rfl ⟨rfl, rfl⟩
      · rw [if_neg g3] at hp
        cases hp
    · skip
      rw [if_pos (show y1.1 = 0 from h2)] at hp
      refine ck_p (L' := [some (.ref a), some (.int y1.1)]) (st' := [.int 0]) k_Rd_faultPlace rfl rfl ?_
      refine ck_j k_Rd_faultPlace rfl rfl ?_
      cases hp
      exact ck_ret (v := some (.int _)) k_Rd_faultPlace rfl rfl trivial rfl ⟨rfl, rfl⟩
def sp_Rd_note  (v1 : Int32) (v2 : Int32) (σ : ck_S) : Option (ck_S) := (if gi v1 5 = true then some (σ.1, (gm_up σ.2.1 2 (upd (σ.2.1 2) v1.toNatClampNeg (q_min ((σ.2.1 2) v1.toNatClampNeg) v2))), σ.2.2.1, σ.2.2.2.1, σ.2.2.2.2.1, σ.2.2.2.2.2) else none)
theorem c_sp_Rd_note  {v1 : Int32} {v2 : Int32} {σ : ck_S} {r : ck_S} (hp : sp_Rd_note  v1 v2 σ = some r) : ck_Has l F (d + 1) m_Rd_note rd_K a A [.ref a, .int v1, .int v2] σ (fun w σ' => w = none ∧ σ' = r) := by
  refine ck_meth (k := 0) (L := [some (.ref a), some (.int v1), some (.int v2)]) pn_Rd rfl (Nat.le_of_ble_eq_true rfl) ?_
  unfold sp_Rd_note at hp
  refine ck_p (L' := [some (.ref a), some (.int v1), some (.int v2)]) (st' := [.ref a]) k_Rd_note rfl rfl ?_
  refine ck_g k_Rd_note rfl rfl rfl rfl ?_
  refine ck_p (L' := [some (.ref a), some (.int v1), some (.int v2)]) (st' := [.int v1, .ref (A 2)]) k_Rd_note rfl rfl ?_
  refine ck_p (L' := [some (.ref a), some (.int v1), some (.int v2)]) (st' := [.ref a, .int v1, .ref (A 2)]) k_Rd_note rfl rfl ?_
  refine ck_g k_Rd_note rfl rfl rfl rfl ?_
  refine ck_p (L' := [some (.ref a), some (.int v1), some (.int v2)]) (st' := [.int v1, .ref (A 2), .int v1, .ref (A 2)]) k_Rd_note rfl rfl ?_
  by_cases g1 : gi v1 5 = true
  · rw [if_pos g1] at hp
    refine ck_ld k_Rd_note rfl rfl rfl (gi_in g1) (by decide) ?_
    refine ck_p (L' := [some (.ref a), some (.int v1), some (.int v2)]) (st' := [.int v2, .int ((σ.2.1 2) v1.toNatClampNeg), .int v1, .ref (A 2)]) k_Rd_note rfl rfl ?_
    refine ck_mn k_Rd_note rfl rfl rfl (Nat.le_of_ble_eq_true rfl) ?_
    refine ck_sto k_Rd_note rfl rfl rfl (gi_in g1) (by decide) ?_
    cases hp
    exact ck_ret (v := none) k_Rd_note rfl rfl trivial rfl ⟨rfl, rfl⟩
  · rw [if_neg g1] at hp
    cases hp
def sp_Rd_refuse   (σ : ck_S) : Option (ck_S) := (if ((σ.2.1 2) (1 : Int32).toNatClampNeg) = 501 then some (σ.1, (gm_up σ.2.1 2 (upd (σ.2.1 2) (1 : Int32).toNatClampNeg (σ.1 8))), σ.2.2.1, σ.2.2.2.1, σ.2.2.2.2.1, σ.2.2.2.2.2) else some σ)
theorem c_sp_Rd_refuse   {σ : ck_S} {r : ck_S} (hp : sp_Rd_refuse   σ = some r) : ck_Has l F (d) m_Rd_refuse rd_K a A [.ref a] σ (fun w σ' => w = none ∧ σ' = r) := by
  refine ck_meth (k := 0) (L := [some (.ref a)]) pn_Rd rfl (Nat.le_of_ble_eq_true rfl) ?_
  unfold sp_Rd_refuse at hp
  refine ck_p (L' := [some (.ref a)]) (st' := [.ref a]) k_Rd_refuse rfl rfl ?_
  refine ck_g k_Rd_refuse rfl rfl rfl rfl ?_
  refine ck_p (L' := [some (.ref a)]) (st' := [.int 1, .ref (A 2)]) k_Rd_refuse rfl rfl ?_
  refine ck_ld k_Rd_refuse rfl rfl rfl (gi_in rfl) (by decide) ?_
  refine ck_p (L' := [some (.ref a)]) (st' := [.int 501, .int ((σ.2.1 2) (1 : Int32).toNatClampNeg)]) k_Rd_refuse rfl rfl ?_
  refine ck_ic k_Rd_refuse rfl rfl rfl (fun h1 => ?_) (fun h1 => ?_)
  · skip
    rw [if_neg (show ¬ (((σ.2.1 2) (1 : Int32).toNatClampNeg) = 501) from h1)] at hp
    cases hp
    exact ck_ret (v := none) k_Rd_refuse rfl rfl trivial rfl ⟨rfl, rfl⟩
  · skip
    rw [if_pos (show ((σ.2.1 2) (1 : Int32).toNatClampNeg) = 501 from h1)] at hp
    refine ck_p (L' := [some (.ref a)]) (st' := [.ref a]) k_Rd_refuse rfl rfl ?_
    refine ck_g k_Rd_refuse rfl rfl rfl rfl ?_
    refine ck_p (L' := [some (.ref a)]) (st' := [.int 1, .ref (A 2)]) k_Rd_refuse rfl rfl ?_
    refine ck_p (L' := [some (.ref a)]) (st' := [.ref a, .int 1, .ref (A 2)]) k_Rd_refuse rfl rfl ?_
    refine ck_g k_Rd_refuse rfl rfl rfl rfl ?_
    refine ck_sto k_Rd_refuse rfl rfl rfl (gi_in rfl) (by decide) ?_
    cases hp
    exact ck_ret (v := none) k_Rd_refuse rfl rfl trivial rfl ⟨rfl, rfl⟩
def sp_Rd_peek   (σ : ck_S) : Option (Int32 × ck_S) := (if ((σ.2.1 2) (1 : Int32).toNatClampNeg) = 501 then (if (σ.1 7) ≤ (σ.1 8) then some ((-1), σ) else (if (500 : Int32) ≤ (σ.1 8) then some ((-1), σ) else (if gi (σ.1 8) 500 = true then some (((σ.2.1 1) (σ.1 8).toNatClampNeg), σ) else none))) else some ((-1), σ))
theorem c_sp_Rd_peek   {σ : ck_S} {r : Int32 × ck_S} (hp : sp_Rd_peek   σ = some r) : ck_Has l F (d) m_Rd_peek rd_K a A [.ref a] σ (fun w σ' => w = some (.int r.1) ∧ σ' = r.2) := by
  refine ck_meth (k := 1) (L := [some (.ref a), none]) pn_Rd rfl (Nat.le_of_ble_eq_true rfl) ?_
  unfold sp_Rd_peek at hp
  refine ck_p (L' := [some (.ref a), none]) (st' := [.ref a]) k_Rd_peek rfl rfl ?_
  refine ck_g k_Rd_peek rfl rfl rfl rfl ?_
  refine ck_p (L' := [some (.ref a), none]) (st' := [.int 1, .ref (A 2)]) k_Rd_peek rfl rfl ?_
  refine ck_ld k_Rd_peek rfl rfl rfl (gi_in rfl) (by decide) ?_
  refine ck_p (L' := [some (.ref a), none]) (st' := [.int 501, .int ((σ.2.1 2) (1 : Int32).toNatClampNeg)]) k_Rd_peek rfl rfl ?_
  refine ck_ic k_Rd_peek rfl rfl rfl (fun h1 => ?_) (fun h1 => ?_)
  · skip
    rw [if_neg (show ¬ (((σ.2.1 2) (1 : Int32).toNatClampNeg) = 501) from h1)] at hp
    refine ck_p (L' := [some (.ref a), none]) (st' := [.int 0]) k_Rd_peek rfl rfl ?_
    refine ck_p (L' := [some (.ref a), some (.int 0)]) (st' := []) k_Rd_peek rfl rfl ?_
    refine ck_p (L' := [some (.ref a), some (.int 0)]) (st' := [.int 0]) k_Rd_peek rfl rfl ?_
    refine ck_if k_Rd_peek rfl rfl rfl (fun h2 => ?_) (fun h2 => ?_)
    · skip
      refine ck_p (L' := [some (.ref a), some (.int 0)]) (st' := [.int (-1)]) k_Rd_peek rfl rfl ?_
      cases hp
      exact ck_ret (v := some (.int _)) k_Rd_peek rfl rfl trivial rfl ⟨rfl, rfl⟩
    · skip
      exact absurd h2 (by decide)
  · skip
    rw [if_pos (show ((σ.2.1 2) (1 : Int32).toNatClampNeg) = 501 from h1)] at hp
    refine ck_p (L' := [some (.ref a), none]) (st' := [.ref a]) k_Rd_peek rfl rfl ?_
    refine ck_g k_Rd_peek rfl rfl rfl rfl ?_
    refine ck_p (L' := [some (.ref a), none]) (st' := [.ref a, .int (σ.1 8)]) k_Rd_peek rfl rfl ?_
    refine ck_g k_Rd_peek rfl rfl rfl rfl ?_
    refine ck_ic k_Rd_peek rfl rfl rfl (fun h3 => ?_) (fun h3 => ?_)
    · skip
      rw [if_pos (show (σ.1 7) ≤ (σ.1 8) from h3)] at hp
      refine ck_p (L' := [some (.ref a), none]) (st' := [.int 0]) k_Rd_peek rfl rfl ?_
      refine ck_p (L' := [some (.ref a), some (.int 0)]) (st' := []) k_Rd_peek rfl rfl ?_
      refine ck_p (L' := [some (.ref a), some (.int 0)]) (st' := [.int 0]) k_Rd_peek rfl rfl ?_
      refine ck_if k_Rd_peek rfl rfl rfl (fun h4 => ?_) (fun h4 => ?_)
      · skip
        refine ck_p (L' := [some (.ref a), some (.int 0)]) (st' := [.int (-1)]) k_Rd_peek rfl rfl ?_
        cases hp
        exact ck_ret (v := some (.int _)) k_Rd_peek rfl rfl trivial rfl ⟨rfl, rfl⟩
      · skip
        exact absurd h4 (by decide)
    · skip
      rw [if_neg (show ¬ ((σ.1 7) ≤ (σ.1 8)) from h3)] at hp
      refine ck_p (L' := [some (.ref a), none]) (st' := [.ref a]) k_Rd_peek rfl rfl ?_
      refine ck_g k_Rd_peek rfl rfl rfl rfl ?_
      refine ck_p (L' := [some (.ref a), none]) (st' := [.ref a, .int (σ.1 8)]) k_Rd_peek rfl rfl ?_
      refine ck_g k_Rd_peek rfl rfl rfl rfl ?_
      refine ck_ln k_Rd_peek rfl rfl rfl (by decide) ?_
      refine ck_ic k_Rd_peek rfl rfl rfl (fun h5 => ?_) (fun h5 => ?_)
      · skip
        rw [if_pos (show (500 : Int32) ≤ (σ.1 8) from h5)] at hp
        refine ck_p (L' := [some (.ref a), none]) (st' := [.int 0]) k_Rd_peek rfl rfl ?_
        refine ck_p (L' := [some (.ref a), some (.int 0)]) (st' := []) k_Rd_peek rfl rfl ?_
        refine ck_p (L' := [some (.ref a), some (.int 0)]) (st' := [.int 0]) k_Rd_peek rfl rfl ?_
        refine ck_if k_Rd_peek rfl rfl rfl (fun h6 => ?_) (fun h6 => ?_)
        · skip
          refine ck_p (L' := [some (.ref a), some (.int 0)]) (st' := [.int (-1)]) k_Rd_peek rfl rfl ?_
          cases hp
          exact ck_ret (v := some (.int _)) k_Rd_peek rfl rfl trivial rfl ⟨rfl, rfl⟩
        · skip
          exact absurd h6 (by decide)
      · skip
        rw [if_neg (show ¬ ((500 : Int32) ≤ (σ.1 8)) from h5)] at hp
        refine ck_p (L' := [some (.ref a), none]) (st' := [.int 1]) k_Rd_peek rfl rfl ?_
        refine ck_j k_Rd_peek rfl rfl ?_
        refine ck_p (L' := [some (.ref a), some (.int 1)]) (st' := []) k_Rd_peek rfl rfl ?_
        refine ck_p (L' := [some (.ref a), some (.int 1)]) (st' := [.int 1]) k_Rd_peek rfl rfl ?_
        refine ck_if k_Rd_peek rfl rfl rfl (fun h7 => ?_) (fun h7 => ?_)
        · skip
          exact absurd h7 (by decide)
        · skip
          refine ck_p (L' := [some (.ref a), some (.int 1)]) (st' := [.ref a]) k_Rd_peek rfl rfl ?_
          refine ck_g k_Rd_peek rfl rfl rfl rfl ?_
          refine ck_p (L' := [some (.ref a), some (.int 1)]) (st' := [.ref a, .ref (A 1)]) k_Rd_peek rfl rfl ?_
          refine ck_g k_Rd_peek rfl rfl rfl rfl ?_
          by_cases g8 : gi (σ.1 8) 500 = true
          · rw [if_pos g8] at hp
            refine ck_lc k_Rd_peek rfl rfl rfl (gi_in g8) (by decide) ?_
            refine ck_j k_Rd_peek rfl rfl ?_
            cases hp
            exact ck_ret (v := some (.int _)) k_Rd_peek rfl rfl trivial rfl ⟨rfl, rfl⟩
          · rw [if_neg g8] at hp
            cases hp
def sp_Rd_takeAny   (σ : ck_S) : Option (Int32 × ck_S) := (match sp_Rd_peek   σ with
  | none => none
  | some y1 => (if y1.1 = (-1) then some (y1.1, y1.2) else some (y1.1, ((upd y1.2.1 8 ((y1.2.1 8) + 1)), y1.2.2.1, y1.2.2.2.1, y1.2.2.2.2.1, y1.2.2.2.2.2.1, y1.2.2.2.2.2.2))))
theorem c_sp_Rd_takeAny   {σ : ck_S} {r : Int32 × ck_S} (hp : sp_Rd_takeAny   σ = some r) : ck_Has l F (d + 1) m_Rd_takeAny rd_K a A [.ref a] σ (fun w σ' => w = some (.int r.1) ∧ σ' = r.2) := by
  refine ck_meth (k := 1) (L := [some (.ref a), none]) pn_Rd rfl (Nat.le_of_ble_eq_true rfl) ?_
  unfold sp_Rd_takeAny at hp
  refine ck_p (L' := [some (.ref a), none]) (st' := [.ref a]) k_Rd_takeAny rfl rfl ?_
  cases hy1 : sp_Rd_peek   σ with
  | none =>
    rw [hy1] at hp
    cases hp
  | some y1 =>
    rw [hy1] at hp
    try dsimp only at hp
    refine ck_ivB (M' := m_Rd_peek) (As := []) k_Rd_takeAny rfl rfl rfl rfl rfl rfl rfl (Nat.le_of_ble_eq_true rfl) (c_sp_Rd_peek  hy1) (fun hby1 => ?_)
    refine ck_p (L' := [some (.ref a), some (.int y1.1)]) (st' := []) k_Rd_takeAny rfl rfl ?_
    refine ck_p (L' := [some (.ref a), some (.int y1.1)]) (st' := [.int y1.1]) k_Rd_takeAny rfl rfl ?_
    refine ck_p (L' := [some (.ref a), some (.int y1.1)]) (st' := [.int (-1), .int y1.1]) k_Rd_takeAny rfl rfl ?_
    refine ck_ic k_Rd_takeAny rfl rfl rfl (fun h2 => ?_) (fun h2 => ?_)
    · skip
      rw [if_pos (show y1.1 = (-1) from h2)] at hp
      refine ck_p (L' := [some (.ref a), some (.int y1.1)]) (st' := [.int y1.1]) k_Rd_takeAny rfl rfl ?_
      cases hp
      exact ck_ret (v := some (.int _)) k_Rd_takeAny rfl rfl trivial rfl ⟨rfl, rfl⟩
    · skip
      rw [if_neg (show ¬ (y1.1 = (-1)) from h2)] at hp
      refine ck_p (L' := [some (.ref a), some (.int y1.1)]) (st' := [.ref a]) k_Rd_takeAny rfl rfl ?_
      refine ck_p (L' := [some (.ref a), some (.int y1.1)]) (st' := [.ref a, .ref a]) k_Rd_takeAny rfl rfl ?_
      refine ck_g k_Rd_takeAny rfl rfl rfl rfl ?_
      refine ck_p (L' := [some (.ref a), some (.int y1.1)]) (st' := [.int 1, .int (y1.2.1 8), .ref a]) k_Rd_takeAny rfl rfl ?_
      refine ck_p (L' := [some (.ref a), some (.int y1.1)]) (st' := [.int ((y1.2.1 8) + 1), .ref a]) k_Rd_takeAny rfl rfl ?_
      refine ck_pt k_Rd_takeAny rfl rfl rfl trivial (Nat.le_of_ble_eq_true rfl) rfl ?_
      refine ck_p (L' := [some (.ref a), some (.int y1.1)]) (st' := [.int y1.1]) k_Rd_takeAny rfl rfl ?_
      cases hp
      exact ck_ret (v := some (.int _)) k_Rd_takeAny rfl rfl trivial rfl ⟨rfl, rfl⟩
def sp_Rd_expect  (v1 : Int32) (σ : ck_S) : Option (ck_S) := (match sp_Rd_peek   σ with
  | none => none
  | some y1 => (if y1.1 = v1 then some ((upd y1.2.1 8 ((y1.2.1 8) + 1)), y1.2.2.1, y1.2.2.2.1, y1.2.2.2.2.1, y1.2.2.2.2.2.1, y1.2.2.2.2.2.2) else (match sp_Rd_refuse   y1.2 with
  | none => none
  | some y3 => some y3)))
theorem c_sp_Rd_expect  {v1 : Int32} {σ : ck_S} {r : ck_S} (hp : sp_Rd_expect  v1 σ = some r) : ck_Has l F (d + 1) m_Rd_expect rd_K a A [.ref a, .int v1] σ (fun w σ' => w = none ∧ σ' = r) := by
  refine ck_meth (k := 0) (L := [some (.ref a), some (.int v1)]) pn_Rd rfl (Nat.le_of_ble_eq_true rfl) ?_
  unfold sp_Rd_expect at hp
  refine ck_p (L' := [some (.ref a), some (.int v1)]) (st' := [.ref a]) k_Rd_expect rfl rfl ?_
  cases hy1 : sp_Rd_peek   σ with
  | none =>
    rw [hy1] at hp
    cases hp
  | some y1 =>
    rw [hy1] at hp
    try dsimp only at hp
    refine ck_ivB (M' := m_Rd_peek) (As := []) k_Rd_expect rfl rfl rfl rfl rfl rfl rfl (Nat.le_of_ble_eq_true rfl) (c_sp_Rd_peek  hy1) (fun hby1 => ?_)
    refine ck_p (L' := [some (.ref a), some (.int v1)]) (st' := [.int v1, .int y1.1]) k_Rd_expect rfl rfl ?_
    refine ck_ic k_Rd_expect rfl rfl rfl (fun h2 => ?_) (fun h2 => ?_)
    · skip
      rw [if_neg (show ¬ (y1.1 = v1) from h2)] at hp
      refine ck_p (L' := [some (.ref a), some (.int v1)]) (st' := [.ref a]) k_Rd_expect rfl rfl ?_
      cases hy3 : sp_Rd_refuse   y1.2 with
      | none =>
        rw [hy3] at hp
        cases hp
      | some y3 =>
        rw [hy3] at hp
        try dsimp only at hp
        refine ck_ivV (M' := m_Rd_refuse) (As := []) k_Rd_expect rfl rfl rfl rfl rfl rfl rfl (Nat.le_of_ble_eq_true rfl) (c_sp_Rd_refuse  hy3) ?_
        cases hp
        exact ck_ret (v := none) k_Rd_expect rfl rfl trivial rfl ⟨rfl, rfl⟩
    · skip
      rw [if_pos (show y1.1 = v1 from h2)] at hp
      refine ck_p (L' := [some (.ref a), some (.int v1)]) (st' := [.ref a]) k_Rd_expect rfl rfl ?_
      refine ck_p (L' := [some (.ref a), some (.int v1)]) (st' := [.ref a, .ref a]) k_Rd_expect rfl rfl ?_
      refine ck_g k_Rd_expect rfl rfl rfl rfl ?_
      refine ck_p (L' := [some (.ref a), some (.int v1)]) (st' := [.int 1, .int (y1.2.1 8), .ref a]) k_Rd_expect rfl rfl ?_
      refine ck_p (L' := [some (.ref a), some (.int v1)]) (st' := [.int ((y1.2.1 8) + 1), .ref a]) k_Rd_expect rfl rfl ?_
      refine ck_pt k_Rd_expect rfl rfl rfl trivial (Nat.le_of_ble_eq_true rfl) rfl ?_
      refine ck_j k_Rd_expect rfl rfl ?_
      cases hp
      exact ck_ret (v := none) k_Rd_expect rfl rfl trivial rfl ⟨rfl, rfl⟩
def sp_Rd_takeBetween  (v1 : Int32) (v2 : Int32) (σ : ck_S) : Option (Int32 × ck_S) := (match sp_Rd_peek   σ with
  | none => none
  | some y1 => (if y1.1 < v1 then (match sp_Rd_refuse   y1.2 with
  | none => none
  | some y3 => some ((-1), y3)) else (if y1.1 ≤ v2 then some (y1.1, ((upd y1.2.1 8 ((y1.2.1 8) + 1)), y1.2.2.1, y1.2.2.2.1, y1.2.2.2.2.1, y1.2.2.2.2.2.1, y1.2.2.2.2.2.2)) else (match sp_Rd_refuse   y1.2 with
  | none => none
  | some y5 => some ((-1), y5)))))
theorem c_sp_Rd_takeBetween  {v1 : Int32} {v2 : Int32} {σ : ck_S} {r : Int32 × ck_S} (hp : sp_Rd_takeBetween  v1 v2 σ = some r) : ck_Has l F (d + 1) m_Rd_takeBetween rd_K a A [.ref a, .int v1, .int v2] σ (fun w σ' => w = some (.int r.1) ∧ σ' = r.2) := by
  refine ck_meth (k := 1) (L := [some (.ref a), some (.int v1), some (.int v2), none]) pn_Rd rfl (Nat.le_of_ble_eq_true rfl) ?_
  unfold sp_Rd_takeBetween at hp
  refine ck_p (L' := [some (.ref a), some (.int v1), some (.int v2), none]) (st' := [.ref a]) k_Rd_takeBetween rfl rfl ?_
  cases hy1 : sp_Rd_peek   σ with
  | none =>
    rw [hy1] at hp
    cases hp
  | some y1 =>
    rw [hy1] at hp
    try dsimp only at hp
    refine ck_ivB (M' := m_Rd_peek) (As := []) k_Rd_takeBetween rfl rfl rfl rfl rfl rfl rfl (Nat.le_of_ble_eq_true rfl) (c_sp_Rd_peek  hy1) (fun hby1 => ?_)
    refine ck_p (L' := [some (.ref a), some (.int v1), some (.int v2), some (.int y1.1)]) (st' := []) k_Rd_takeBetween rfl rfl ?_
    refine ck_p (L' := [some (.ref a), some (.int v1), some (.int v2), some (.int y1.1)]) (st' := [.int y1.1]) k_Rd_takeBetween rfl rfl ?_
    refine ck_p (L' := [some (.ref a), some (.int v1), some (.int v2), some (.int y1.1)]) (st' := [.int v1, .int y1.1]) k_Rd_takeBetween rfl rfl ?_
    refine ck_ic k_Rd_takeBetween rfl rfl rfl (fun h2 => ?_) (fun h2 => ?_)
    · skip
      rw [if_pos (show y1.1 < v1 from h2)] at hp
      refine ck_p (L' := [some (.ref a), some (.int v1), some (.int v2), some (.int y1.1)]) (st' := [.ref a]) k_Rd_takeBetween rfl rfl ?_
      cases hy3 : sp_Rd_refuse   y1.2 with
      | none =>
        rw [hy3] at hp
        cases hp
      | some y3 =>
        rw [hy3] at hp
        try dsimp only at hp
        refine ck_ivV (M' := m_Rd_refuse) (As := []) k_Rd_takeBetween rfl rfl rfl rfl rfl rfl rfl (Nat.le_of_ble_eq_true rfl) (c_sp_Rd_refuse  hy3) ?_
        refine ck_p (L' := [some (.ref a), some (.int v1), some (.int v2), some (.int y1.1)]) (st' := [.int (-1)]) k_Rd_takeBetween rfl rfl ?_
        cases hp
        exact ck_ret (v := some (.int _)) k_Rd_takeBetween rfl rfl trivial rfl ⟨rfl, rfl⟩
    · skip
      rw [if_neg (show ¬ (y1.1 < v1) from h2)] at hp
      refine ck_p (L' := [some (.ref a), some (.int v1), some (.int v2), some (.int y1.1)]) (st' := [.int y1.1]) k_Rd_takeBetween rfl rfl ?_
      refine ck_p (L' := [some (.ref a), some (.int v1), some (.int v2), some (.int y1.1)]) (st' := [.int v2, .int y1.1]) k_Rd_takeBetween rfl rfl ?_
      refine ck_ic k_Rd_takeBetween rfl rfl rfl (fun h4 => ?_) (fun h4 => ?_)
      · skip
        rw [if_pos (show y1.1 ≤ v2 from h4)] at hp
        refine ck_p (L' := [some (.ref a), some (.int v1), some (.int v2), some (.int y1.1)]) (st' := [.ref a]) k_Rd_takeBetween rfl rfl ?_
        refine ck_p (L' := [some (.ref a), some (.int v1), some (.int v2), some (.int y1.1)]) (st' := [.ref a, .ref a]) k_Rd_takeBetween rfl rfl ?_
        refine ck_g k_Rd_takeBetween rfl rfl rfl rfl ?_
        refine ck_p (L' := [some (.ref a), some (.int v1), some (.int v2), some (.int y1.1)]) (st' := [.int 1, .int (y1.2.1 8), .ref a]) k_Rd_takeBetween rfl rfl ?_
        refine ck_p (L' := [some (.ref a), some (.int v1), some (.int v2), some (.int y1.1)]) (st' := [.int ((y1.2.1 8) + 1), .ref a]) k_Rd_takeBetween rfl rfl ?_
        refine ck_pt k_Rd_takeBetween rfl rfl rfl trivial (Nat.le_of_ble_eq_true rfl) rfl ?_
        refine ck_p (L' := [some (.ref a), some (.int v1), some (.int v2), some (.int y1.1)]) (st' := [.int y1.1]) k_Rd_takeBetween rfl rfl ?_
        cases hp
        exact ck_ret (v := some (.int _)) k_Rd_takeBetween rfl rfl trivial rfl ⟨rfl, rfl⟩
      · skip
        rw [if_neg (show ¬ (y1.1 ≤ v2) from h4)] at hp
        refine ck_p (L' := [some (.ref a), some (.int v1), some (.int v2), some (.int y1.1)]) (st' := [.ref a]) k_Rd_takeBetween rfl rfl ?_
        cases hy5 : sp_Rd_refuse   y1.2 with
        | none =>
          rw [hy5] at hp
          cases hp
        | some y5 =>
          rw [hy5] at hp
          try dsimp only at hp
          refine ck_ivV (M' := m_Rd_refuse) (As := []) k_Rd_takeBetween rfl rfl rfl rfl rfl rfl rfl (Nat.le_of_ble_eq_true rfl) (c_sp_Rd_refuse  hy5) ?_
          refine ck_p (L' := [some (.ref a), some (.int v1), some (.int v2), some (.int y1.1)]) (st' := [.int (-1)]) k_Rd_takeBetween rfl rfl ?_
          cases hp
          exact ck_ret (v := some (.int _)) k_Rd_takeBetween rfl rfl trivial rfl ⟨rfl, rfl⟩
def sp_Rd_seesLetter   (σ : ck_S) : Option (Int32 × ck_S) := (match sp_Rd_peek   σ with
  | none => none
  | some y1 => (if y1.1 < 97 then some (0, y1.2) else (match sp_Rd_peek   y1.2 with
  | none => none
  | some y3 => (if (122 : Int32) < y3.1 then some (0, y3.2) else some (1, y3.2)))))
theorem c_sp_Rd_seesLetter   {σ : ck_S} {r : Int32 × ck_S} (hp : sp_Rd_seesLetter   σ = some r) : ck_Has l F (d + 1) m_Rd_seesLetter rd_K a A [.ref a] σ (fun w σ' => w = some (.int r.1) ∧ σ' = r.2) := by
  refine ck_meth (k := 0) (L := [some (.ref a)]) pn_Rd rfl (Nat.le_of_ble_eq_true rfl) ?_
  unfold sp_Rd_seesLetter at hp
  refine ck_p (L' := [some (.ref a)]) (st' := [.ref a]) k_Rd_seesLetter rfl rfl ?_
  cases hy1 : sp_Rd_peek   σ with
  | none =>
    rw [hy1] at hp
    cases hp
  | some y1 =>
    rw [hy1] at hp
    try dsimp only at hp
    refine ck_ivB (M' := m_Rd_peek) (As := []) k_Rd_seesLetter rfl rfl rfl rfl rfl rfl rfl (Nat.le_of_ble_eq_true rfl) (c_sp_Rd_peek  hy1) (fun hby1 => ?_)
    refine ck_p (L' := [some (.ref a)]) (st' := [.int 97, .int y1.1]) k_Rd_seesLetter rfl rfl ?_
    refine ck_ic k_Rd_seesLetter rfl rfl rfl (fun h2 => ?_) (fun h2 => ?_)
    · skip
      rw [if_pos (show y1.1 < 97 from h2)] at hp
      refine ck_p (L' := [some (.ref a)]) (st' := [.int 0]) k_Rd_seesLetter rfl rfl ?_
      cases hp
      exact ck_ret (v := some (.int _)) k_Rd_seesLetter rfl rfl (Or.inl rfl) rfl ⟨rfl, rfl⟩
    · skip
      rw [if_neg (show ¬ (y1.1 < 97) from h2)] at hp
      refine ck_p (L' := [some (.ref a)]) (st' := [.ref a]) k_Rd_seesLetter rfl rfl ?_
      cases hy3 : sp_Rd_peek   y1.2 with
      | none =>
        rw [hy3] at hp
        cases hp
      | some y3 =>
        rw [hy3] at hp
        try dsimp only at hp
        refine ck_ivB (M' := m_Rd_peek) (As := []) k_Rd_seesLetter rfl rfl rfl rfl rfl rfl rfl (Nat.le_of_ble_eq_true rfl) (c_sp_Rd_peek  hy3) (fun hby3 => ?_)
        refine ck_p (L' := [some (.ref a)]) (st' := [.int 122, .int y3.1]) k_Rd_seesLetter rfl rfl ?_
        refine ck_ic k_Rd_seesLetter rfl rfl rfl (fun h4 => ?_) (fun h4 => ?_)
        · skip
          rw [if_pos (show (122 : Int32) < y3.1 from h4)] at hp
          refine ck_p (L' := [some (.ref a)]) (st' := [.int 0]) k_Rd_seesLetter rfl rfl ?_
          cases hp
          exact ck_ret (v := some (.int _)) k_Rd_seesLetter rfl rfl (Or.inl rfl) rfl ⟨rfl, rfl⟩
        · skip
          rw [if_neg (show ¬ ((122 : Int32) < y3.1) from h4)] at hp
          refine ck_p (L' := [some (.ref a)]) (st' := [.int 1]) k_Rd_seesLetter rfl rfl ?_
          refine ck_j k_Rd_seesLetter rfl rfl ?_
          cases hp
          exact ck_ret (v := some (.int _)) k_Rd_seesLetter rfl rfl (Or.inr rfl) rfl ⟨rfl, rfl⟩
def sp_Rd_startProgram   (σ : ck_S) : Option (ck_S) := (match sp_Arrays_fill_3  0 σ with
  | none => none
  | some y1 => some ((upd (upd (upd (upd (upd (upd (upd y1.1 10 0) 11 0) 12 0) 13 0) 14 0) 15 0) 16 0), y1.2.1, y1.2.2.1, y1.2.2.2.1, y1.2.2.2.2.1, y1.2.2.2.2.2))
theorem c_sp_Rd_startProgram   {σ : ck_S} {r : ck_S} (hp : sp_Rd_startProgram   σ = some r) : ck_Has l F (d + 1) m_Rd_startProgram rd_K a A [.ref a] σ (fun w σ' => w = none ∧ σ' = r) := by
  refine ck_meth (k := 0) (L := [some (.ref a)]) pn_Rd rfl (Nat.le_of_ble_eq_true rfl) ?_
  unfold sp_Rd_startProgram at hp
  refine ck_p (L' := [some (.ref a)]) (st' := [.ref a]) k_Rd_startProgram rfl rfl ?_
  refine ck_g k_Rd_startProgram rfl rfl rfl rfl ?_
  refine ck_p (L' := [some (.ref a)]) (st' := [.int 0, .ref (A 3)]) k_Rd_startProgram rfl rfl ?_
  cases hy1 : sp_Arrays_fill_3  0 σ with
  | none =>
    rw [hy1] at hp
    cases hp
  | some y1 =>
    rw [hy1] at hp
    try dsimp only at hp
    refine ck_isV (M' := m_Arrays_fill) (As := [.ref (A 3), .int 0]) k_Rd_startProgram rfl rfl rfl rfl rfl rfl (Nat.le_of_ble_eq_true rfl) (c_sp_Arrays_fill_3  hy1) ?_
    refine ck_p (L' := [some (.ref a)]) (st' := [.ref a]) k_Rd_startProgram rfl rfl ?_
    refine ck_p (L' := [some (.ref a)]) (st' := [.int 0, .ref a]) k_Rd_startProgram rfl rfl ?_
    refine ck_pt k_Rd_startProgram rfl rfl rfl trivial (Nat.le_of_ble_eq_true rfl) rfl ?_
    refine ck_p (L' := [some (.ref a)]) (st' := [.ref a]) k_Rd_startProgram rfl rfl ?_
    refine ck_p (L' := [some (.ref a)]) (st' := [.int 0, .ref a]) k_Rd_startProgram rfl rfl ?_
    refine ck_pt k_Rd_startProgram rfl rfl rfl trivial (Nat.le_of_ble_eq_true rfl) rfl ?_
    refine ck_p (L' := [some (.ref a)]) (st' := [.ref a]) k_Rd_startProgram rfl rfl ?_
    refine ck_p (L' := [some (.ref a)]) (st' := [.int 0, .ref a]) k_Rd_startProgram rfl rfl ?_
    refine ck_pt k_Rd_startProgram rfl rfl rfl trivial (Nat.le_of_ble_eq_true rfl) rfl ?_
    refine ck_p (L' := [some (.ref a)]) (st' := [.ref a]) k_Rd_startProgram rfl rfl ?_
    refine ck_p (L' := [some (.ref a)]) (st' := [.int 0, .ref a]) k_Rd_startProgram rfl rfl ?_
    refine ck_pt k_Rd_startProgram rfl rfl rfl trivial (Nat.le_of_ble_eq_true rfl) rfl ?_
    refine ck_p (L' := [some (.ref a)]) (st' := [.ref a]) k_Rd_startProgram rfl rfl ?_
    refine ck_p (L' := [some (.ref a)]) (st' := [.int 0, .ref a]) k_Rd_startProgram rfl rfl ?_
    refine ck_pt k_Rd_startProgram rfl rfl rfl trivial (Nat.le_of_ble_eq_true rfl) rfl ?_
    refine ck_p (L' := [some (.ref a)]) (st' := [.ref a]) k_Rd_startProgram rfl rfl ?_
    refine ck_p (L' := [some (.ref a)]) (st' := [.int 0, .ref a]) k_Rd_startProgram rfl rfl ?_
    refine ck_pt k_Rd_startProgram rfl rfl rfl trivial (Nat.le_of_ble_eq_true rfl) rfl ?_
    refine ck_p (L' := [some (.ref a)]) (st' := [.ref a]) k_Rd_startProgram rfl rfl ?_
    refine ck_p (L' := [some (.ref a)]) (st' := [.int 0, .ref a]) k_Rd_startProgram rfl rfl ?_
    refine ck_pt k_Rd_startProgram rfl rfl rfl trivial (Nat.le_of_ble_eq_true rfl) rfl ?_
    cases hp
    exact ck_ret (v := none) k_Rd_startProgram rfl rfl trivial rfl ⟨rfl, rfl⟩
def sp_Rd_readName   (σ : ck_S) : Option (Int32 × ck_S) := (match sp_Rd_takeBetween  65 70 σ with
  | none => none
  | some y1 => (if y1.1 = (-1) then some (y1.1, y1.2) else (if ((y1.2.1 9) &&& ((1 : Int32) <<< ((y1.1 - 65) &&& 31))) = 0 then some (y1.1, ((upd y1.2.1 9 ((y1.2.1 9) ||| ((1 : Int32) <<< ((y1.1 - 65) &&& 31)))), y1.2.2.1, y1.2.2.2.1, y1.2.2.2.2.1, y1.2.2.2.2.2.1, y1.2.2.2.2.2.2)) else (match sp_Rd_note  2 (σ.1 8) y1.2 with
  | none => none
  | some y4 => some (y1.1, ((upd y4.1 9 ((y4.1 9) ||| ((1 : Int32) <<< ((y1.1 - 65) &&& 31)))), y4.2.1, y4.2.2.1, y4.2.2.2.1, y4.2.2.2.2.1, y4.2.2.2.2.2))))))
theorem c_sp_Rd_readName   {σ : ck_S} {r : Int32 × ck_S} (hp : sp_Rd_readName   σ = some r) : ck_Has l F (d + 2) m_Rd_readName rd_K a A [.ref a] σ (fun w σ' => w = some (.int r.1) ∧ σ' = r.2) := by
  refine ck_meth (k := 3) (L := [some (.ref a), none, none, none]) pn_Rd rfl (Nat.le_of_ble_eq_true rfl) ?_
  unfold sp_Rd_readName at hp
  refine ck_p (L' := [some (.ref a), none, none, none]) (st' := [.ref a]) k_Rd_readName rfl rfl ?_
  refine ck_g k_Rd_readName rfl rfl rfl rfl ?_
  refine ck_p (L' := [some (.ref a), some (.int (σ.1 8)), none, none]) (st' := []) k_Rd_readName rfl rfl ?_
  refine ck_p (L' := [some (.ref a), some (.int (σ.1 8)), none, none]) (st' := [.ref a]) k_Rd_readName rfl rfl ?_
  refine ck_p (L' := [some (.ref a), some (.int (σ.1 8)), none, none]) (st' := [.int 65, .ref a]) k_Rd_readName rfl rfl ?_
  refine ck_p (L' := [some (.ref a), some (.int (σ.1 8)), none, none]) (st' := [.int 70, .int 65, .ref a]) k_Rd_readName rfl rfl ?_
  cases hy1 : sp_Rd_takeBetween  65 70 σ with
  | none =>
    rw [hy1] at hp
    cases hp
  | some y1 =>
    rw [hy1] at hp
    try dsimp only at hp
    refine ck_ivB (M' := m_Rd_takeBetween) (As := [.int 65, .int 70]) k_Rd_readName rfl rfl rfl rfl rfl rfl rfl (Nat.le_of_ble_eq_true rfl) (c_sp_Rd_takeBetween  hy1) (fun hby1 => ?_)
    refine ck_p (L' := [some (.ref a), some (.int (σ.1 8)), some (.int y1.1), none]) (st' := []) k_Rd_readName rfl rfl ?_
    refine ck_p (L' := [some (.ref a), some (.int (σ.1 8)), some (.int y1.1), none]) (st' := [.int y1.1]) k_Rd_readName rfl rfl ?_
    refine ck_p (L' := [some (.ref a), some (.int (σ.1 8)), some (.int y1.1), none]) (st' := [.int (-1), .int y1.1]) k_Rd_readName rfl rfl ?_
    refine ck_ic k_Rd_readName rfl rfl rfl (fun h2 => ?_) (fun h2 => ?_)
    · skip
      rw [if_pos (show y1.1 = (-1) from h2)] at hp
      refine ck_p (L' := [some (.ref a), some (.int (σ.1 8)), some (.int y1.1), none]) (st' := [.int y1.1]) k_Rd_readName rfl rfl ?_
      cases hp
      exact ck_ret (v := some (.int _)) k_Rd_readName rfl rfl trivial rfl ⟨rfl, rfl⟩
    · skip
      rw [if_neg (show ¬ (y1.1 = (-1)) from h2)] at hp
      refine ck_p (L' := [some (.ref a), some (.int (σ.1 8)), some (.int y1.1), none]) (st' := [.int 1]) k_Rd_readName rfl rfl ?_
      refine ck_p (L' := [some (.ref a), some (.int (σ.1 8)), some (.int y1.1), none]) (st' := [.int y1.1, .int 1]) k_Rd_readName rfl rfl ?_
      refine ck_p (L' := [some (.ref a), some (.int (σ.1 8)), some (.int y1.1), none]) (st' := [.int 65, .int y1.1, .int 1]) k_Rd_readName rfl rfl ?_
      refine ck_p (L' := [some (.ref a), some (.int (σ.1 8)), some (.int y1.1), none]) (st' := [.int (y1.1 - 65), .int 1]) k_Rd_readName rfl rfl ?_
      refine ck_p (L' := [some (.ref a), some (.int (σ.1 8)), some (.int y1.1), none]) (st' := [.int ((1 : Int32) <<< ((y1.1 - 65) &&& 31))]) k_Rd_readName rfl rfl ?_
      refine ck_p (L' := [some (.ref a), some (.int (σ.1 8)), some (.int y1.1), some (.int ((1 : Int32) <<< ((y1.1 - 65) &&& 31)))]) (st' := []) k_Rd_readName rfl rfl ?_
      refine ck_p (L' := [some (.ref a), some (.int (σ.1 8)), some (.int y1.1), some (.int ((1 : Int32) <<< ((y1.1 - 65) &&& 31)))]) (st' := [.ref a]) k_Rd_readName rfl rfl ?_
      refine ck_g k_Rd_readName rfl rfl rfl rfl ?_
      refine ck_p (L' := [some (.ref a), some (.int (σ.1 8)), some (.int y1.1), some (.int ((1 : Int32) <<< ((y1.1 - 65) &&& 31)))]) (st' := [.int ((1 : Int32) <<< ((y1.1 - 65) &&& 31)), .int (y1.2.1 9)]) k_Rd_readName rfl rfl ?_
      refine ck_p (L' := [some (.ref a), some (.int (σ.1 8)), some (.int y1.1), some (.int ((1 : Int32) <<< ((y1.1 - 65) &&& 31)))]) (st' := [.int ((y1.2.1 9) &&& ((1 : Int32) <<< ((y1.1 - 65) &&& 31)))]) k_Rd_readName rfl rfl ?_
      refine ck_if k_Rd_readName rfl rfl rfl (fun h3 => ?_) (fun h3 => ?_)
      · skip
        rw [if_pos (show ((y1.2.1 9) &&& ((1 : Int32) <<< ((y1.1 - 65) &&& 31))) = 0 from h3)] at hp
        refine ck_p (L' := [some (.ref a), some (.int (σ.1 8)), some (.int y1.1), some (.int ((1 : Int32) <<< ((y1.1 - 65) &&& 31)))]) (st' := [.ref a]) k_Rd_readName rfl rfl ?_
        refine ck_p (L' := [some (.ref a), some (.int (σ.1 8)), some (.int y1.1), some (.int ((1 : Int32) <<< ((y1.1 - 65) &&& 31)))]) (st' := [.ref a, .ref a]) k_Rd_readName rfl rfl ?_
        refine ck_g k_Rd_readName rfl rfl rfl rfl ?_
        refine ck_p (L' := [some (.ref a), some (.int (σ.1 8)), some (.int y1.1), some (.int ((1 : Int32) <<< ((y1.1 - 65) &&& 31)))]) (st' := [.int ((1 : Int32) <<< ((y1.1 - 65) &&& 31)), .int (y1.2.1 9), .ref a]) k_Rd_readName rfl rfl ?_
        refine ck_p (L' := [some (.ref a), some (.int (σ.1 8)), some (.int y1.1), some (.int ((1 : Int32) <<< ((y1.1 - 65) &&& 31)))]) (st' := [.int ((y1.2.1 9) ||| ((1 : Int32) <<< ((y1.1 - 65) &&& 31))), .ref a]) k_Rd_readName rfl rfl ?_
        refine ck_pt k_Rd_readName rfl rfl rfl trivial (Nat.le_of_ble_eq_true rfl) rfl ?_
        refine ck_p (L' := [some (.ref a), some (.int (σ.1 8)), some (.int y1.1), some (.int ((1 : Int32) <<< ((y1.1 - 65) &&& 31)))]) (st' := [.int y1.1]) k_Rd_readName rfl rfl ?_
        cases hp
        exact ck_ret (v := some (.int _)) k_Rd_readName rfl rfl trivial rfl ⟨rfl, rfl⟩
      · skip
        rw [if_neg (show ¬ (((y1.2.1 9) &&& ((1 : Int32) <<< ((y1.1 - 65) &&& 31))) = 0) from h3)] at hp
        refine ck_p (L' := [some (.ref a), some (.int (σ.1 8)), some (.int y1.1), some (.int ((1 : Int32) <<< ((y1.1 - 65) &&& 31)))]) (st' := [.ref a]) k_Rd_readName rfl rfl ?_
        refine ck_p (L' := [some (.ref a), some (.int (σ.1 8)), some (.int y1.1), some (.int ((1 : Int32) <<< ((y1.1 - 65) &&& 31)))]) (st' := [.int 2, .ref a]) k_Rd_readName rfl rfl ?_
        refine ck_p (L' := [some (.ref a), some (.int (σ.1 8)), some (.int y1.1), some (.int ((1 : Int32) <<< ((y1.1 - 65) &&& 31)))]) (st' := [.int (σ.1 8), .int 2, .ref a]) k_Rd_readName rfl rfl ?_
        cases hy4 : sp_Rd_note  2 (σ.1 8) y1.2 with
        | none =>
          rw [hy4] at hp
          cases hp
        | some y4 =>
          rw [hy4] at hp
          try dsimp only at hp
          refine ck_ivV (M' := m_Rd_note) (As := [.int 2, .int (σ.1 8)]) k_Rd_readName rfl rfl rfl rfl rfl rfl rfl (Nat.le_of_ble_eq_true rfl) (c_sp_Rd_note  hy4) ?_
          refine ck_p (L' := [some (.ref a), some (.int (σ.1 8)), some (.int y1.1), some (.int ((1 : Int32) <<< ((y1.1 - 65) &&& 31)))]) (st' := [.ref a]) k_Rd_readName rfl rfl ?_
          refine ck_p (L' := [some (.ref a), some (.int (σ.1 8)), some (.int y1.1), some (.int ((1 : Int32) <<< ((y1.1 - 65) &&& 31)))]) (st' := [.ref a, .ref a]) k_Rd_readName rfl rfl ?_
          refine ck_g k_Rd_readName rfl rfl rfl rfl ?_
          refine ck_p (L' := [some (.ref a), some (.int (σ.1 8)), some (.int y1.1), some (.int ((1 : Int32) <<< ((y1.1 - 65) &&& 31)))]) (st' := [.int ((1 : Int32) <<< ((y1.1 - 65) &&& 31)), .int (y4.1 9), .ref a]) k_Rd_readName rfl rfl ?_
          refine ck_p (L' := [some (.ref a), some (.int (σ.1 8)), some (.int y1.1), some (.int ((1 : Int32) <<< ((y1.1 - 65) &&& 31)))]) (st' := [.int ((y4.1 9) ||| ((1 : Int32) <<< ((y1.1 - 65) &&& 31))), .ref a]) k_Rd_readName rfl rfl ?_
          refine ck_pt k_Rd_readName rfl rfl rfl trivial (Nat.le_of_ble_eq_true rfl) rfl ?_
          refine ck_p (L' := [some (.ref a), some (.int (σ.1 8)), some (.int y1.1), some (.int ((1 : Int32) <<< ((y1.1 - 65) &&& 31)))]) (st' := [.int y1.1]) k_Rd_readName rfl rfl ?_
          cases hp
          exact ck_ret (v := some (.int _)) k_Rd_readName rfl rfl trivial rfl ⟨rfl, rfl⟩
def sp_Rd_readNewSignal   (σ : ck_S) : Option (Int32 × ck_S) := (match sp_Rd_takeBetween  97 122 σ with
  | none => none
  | some y1 => (if y1.1 = (-1) then some (0, y1.2) else (if gi (y1.1 - 97) 26 = true then (if (((y1.2.2.1 3) (y1.1 - 97).toNatClampNeg) &&& (y1.2.1 12)) = 0 then (if ((y1.2.2.1 3) (y1.1 - 97).toNatClampNeg) = 0 then some (((upd (y1.2.2.1 3) (y1.1 - 97).toNatClampNeg ((1 : Int32) <<< ((y1.2.1 10) &&& 31))) (y1.1 - 97).toNatClampNeg), ((upd y1.2.1 10 ((y1.2.1 10) + 1)), (gm_up y1.2.2.1 3 (upd (y1.2.2.1 3) (y1.1 - 97).toNatClampNeg ((1 : Int32) <<< ((y1.2.1 10) &&& 31)))), y1.2.2.2.1, y1.2.2.2.2.1, y1.2.2.2.2.2.1, y1.2.2.2.2.2.2)) else some (((y1.2.2.1 3) (y1.1 - 97).toNatClampNeg), y1.2)) else (match sp_Rd_note  2 (σ.1 8) y1.2 with
  | none => none
  | some y6 => (if ((y6.2.1 3) (y1.1 - 97).toNatClampNeg) = 0 then some (((upd (y6.2.1 3) (y1.1 - 97).toNatClampNeg ((1 : Int32) <<< ((y6.1 10) &&& 31))) (y1.1 - 97).toNatClampNeg), ((upd y6.1 10 ((y6.1 10) + 1)), (gm_up y6.2.1 3 (upd (y6.2.1 3) (y1.1 - 97).toNatClampNeg ((1 : Int32) <<< ((y6.1 10) &&& 31)))), y6.2.2.1, y6.2.2.2.1, y6.2.2.2.2.1, y6.2.2.2.2.2)) else some (((y6.2.1 3) (y1.1 - 97).toNatClampNeg), y6)))) else none)))
theorem c_sp_Rd_readNewSignal   {σ : ck_S} {r : Int32 × ck_S} (hp : sp_Rd_readNewSignal   σ = some r) : ck_Has l F (d + 2) m_Rd_readNewSignal rd_K a A [.ref a] σ (fun w σ' => w = some (.int r.1) ∧ σ' = r.2) := by
  refine ck_meth (k := 3) (L := [some (.ref a), none, none, none]) pn_Rd rfl (Nat.le_of_ble_eq_true rfl) ?_
  unfold sp_Rd_readNewSignal at hp
  refine ck_p (L' := [some (.ref a), none, none, none]) (st' := [.ref a]) k_Rd_readNewSignal rfl rfl ?_
  refine ck_g k_Rd_readNewSignal rfl rfl rfl rfl ?_
  refine ck_p (L' := [some (.ref a), some (.int (σ.1 8)), none, none]) (st' := []) k_Rd_readNewSignal rfl rfl ?_
  refine ck_p (L' := [some (.ref a), some (.int (σ.1 8)), none, none]) (st' := [.ref a]) k_Rd_readNewSignal rfl rfl ?_
  refine ck_p (L' := [some (.ref a), some (.int (σ.1 8)), none, none]) (st' := [.int 97, .ref a]) k_Rd_readNewSignal rfl rfl ?_
  refine ck_p (L' := [some (.ref a), some (.int (σ.1 8)), none, none]) (st' := [.int 122, .int 97, .ref a]) k_Rd_readNewSignal rfl rfl ?_
  cases hy1 : sp_Rd_takeBetween  97 122 σ with
  | none =>
    rw [hy1] at hp
    cases hp
  | some y1 =>
    rw [hy1] at hp
    try dsimp only at hp
    refine ck_ivB (M' := m_Rd_takeBetween) (As := [.int 97, .int 122]) k_Rd_readNewSignal rfl rfl rfl rfl rfl rfl rfl (Nat.le_of_ble_eq_true rfl) (c_sp_Rd_takeBetween  hy1) (fun hby1 => ?_)
    refine ck_p (L' := [some (.ref a), some (.int (σ.1 8)), some (.int y1.1), none]) (st' := []) k_Rd_readNewSignal rfl rfl ?_
    refine ck_p (L' := [some (.ref a), some (.int (σ.1 8)), some (.int y1.1), none]) (st' := [.int y1.1]) k_Rd_readNewSignal rfl rfl ?_
    refine ck_p (L' := [some (.ref a), some (.int (σ.1 8)), some (.int y1.1), none]) (st' := [.int (-1), .int y1.1]) k_Rd_readNewSignal rfl rfl ?_
    refine ck_ic k_Rd_readNewSignal rfl rfl rfl (fun h2 => ?_) (fun h2 => ?_)
    · skip
      rw [if_neg (show ¬ (y1.1 = (-1)) from h2)] at hp
      refine ck_p (L' := [some (.ref a), some (.int (σ.1 8)), some (.int y1.1), none]) (st' := [.int y1.1]) k_Rd_readNewSignal rfl rfl ?_
      refine ck_p (L' := [some (.ref a), some (.int (σ.1 8)), some (.int y1.1), none]) (st' := [.int 97, .int y1.1]) k_Rd_readNewSignal rfl rfl ?_
      refine ck_p (L' := [some (.ref a), some (.int (σ.1 8)), some (.int y1.1), none]) (st' := [.int (y1.1 - 97)]) k_Rd_readNewSignal rfl rfl ?_
      refine ck_p (L' := [some (.ref a), some (.int (σ.1 8)), some (.int y1.1), some (.int (y1.1 - 97))]) (st' := []) k_Rd_readNewSignal rfl rfl ?_
      refine ck_p (L' := [some (.ref a), some (.int (σ.1 8)), some (.int y1.1), some (.int (y1.1 - 97))]) (st' := [.ref a]) k_Rd_readNewSignal rfl rfl ?_
      refine ck_g k_Rd_readNewSignal rfl rfl rfl rfl ?_
      refine ck_p (L' := [some (.ref a), some (.int (σ.1 8)), some (.int y1.1), some (.int (y1.1 - 97))]) (st' := [.int (y1.1 - 97), .ref (A 3)]) k_Rd_readNewSignal rfl rfl ?_
      by_cases g3 : gi (y1.1 - 97) 26 = true
      · rw [if_pos g3] at hp
        refine ck_ld k_Rd_readNewSignal rfl rfl rfl (gi_in g3) (by decide) ?_
        refine ck_p (L' := [some (.ref a), some (.int (σ.1 8)), some (.int y1.1), some (.int (y1.1 - 97))]) (st' := [.ref a, .int ((y1.2.2.1 3) (y1.1 - 97).toNatClampNeg)]) k_Rd_readNewSignal rfl rfl ?_
        refine ck_g k_Rd_readNewSignal rfl rfl rfl rfl ?_
        refine ck_p (L' := [some (.ref a), some (.int (σ.1 8)), some (.int y1.1), some (.int (y1.1 - 97))]) (st' := [.int (((y1.2.2.1 3) (y1.1 - 97).toNatClampNeg) &&& (y1.2.1 12))]) k_Rd_readNewSignal rfl rfl ?_
        refine ck_if k_Rd_readNewSignal rfl rfl rfl (fun h4 => ?_) (fun h4 => ?_)
        · skip
          rw [if_pos (show (((y1.2.2.1 3) (y1.1 - 97).toNatClampNeg) &&& (y1.2.1 12)) = 0 from h4)] at hp
          refine ck_p (L' := [some (.ref a), some (.int (σ.1 8)), some (.int y1.1), some (.int (y1.1 - 97))]) (st' := [.ref a]) k_Rd_readNewSignal rfl rfl ?_
          refine ck_g k_Rd_readNewSignal rfl rfl rfl rfl ?_
          refine ck_p (L' := [some (.ref a), some (.int (σ.1 8)), some (.int y1.1), some (.int (y1.1 - 97))]) (st' := [.int (y1.1 - 97), .ref (A 3)]) k_Rd_readNewSignal rfl rfl ?_
          refine ck_ld k_Rd_readNewSignal rfl rfl rfl (gi_in g3) (by decide) ?_
          refine ck_if k_Rd_readNewSignal rfl rfl rfl (fun h5 => ?_) (fun h5 => ?_)
          · skip
            rw [if_neg (show ¬ (((y1.2.2.1 3) (y1.1 - 97).toNatClampNeg) = 0) from h5)] at hp
            refine ck_p (L' := [some (.ref a), some (.int (σ.1 8)), some (.int y1.1), some (.int (y1.1 - 97))]) (st' := [.ref a]) k_Rd_readNewSignal rfl rfl ?_
            refine ck_g k_Rd_readNewSignal rfl rfl rfl rfl ?_
            refine ck_p (L' := [some (.ref a), some (.int (σ.1 8)), some (.int y1.1), some (.int (y1.1 - 97))]) (st' := [.int (y1.1 - 97), .ref (A 3)]) k_Rd_readNewSignal rfl rfl ?_
            refine ck_ld k_Rd_readNewSignal rfl rfl rfl (gi_in g3) (by decide) ?_
            cases hp
            exact ck_ret (v := some (.int _)) k_Rd_readNewSignal rfl rfl trivial rfl ⟨rfl, rfl⟩
          · skip
            rw [if_pos (show ((y1.2.2.1 3) (y1.1 - 97).toNatClampNeg) = 0 from h5)] at hp
            refine ck_p (L' := [some (.ref a), some (.int (σ.1 8)), some (.int y1.1), some (.int (y1.1 - 97))]) (st' := [.ref a]) k_Rd_readNewSignal rfl rfl ?_
            refine ck_g k_Rd_readNewSignal rfl rfl rfl rfl ?_
            refine ck_p (L' := [some (.ref a), some (.int (σ.1 8)), some (.int y1.1), some (.int (y1.1 - 97))]) (st' := [.int (y1.1 - 97), .ref (A 3)]) k_Rd_readNewSignal rfl rfl ?_
            refine ck_p (L' := [some (.ref a), some (.int (σ.1 8)), some (.int y1.1), some (.int (y1.1 - 97))]) (st' := [.int 1, .int (y1.1 - 97), .ref (A 3)]) k_Rd_readNewSignal rfl rfl ?_
            refine ck_p (L' := [some (.ref a), some (.int (σ.1 8)), some (.int y1.1), some (.int (y1.1 - 97))]) (st' := [.ref a, .int 1, .int (y1.1 - 97), .ref (A 3)]) k_Rd_readNewSignal rfl rfl ?_
            refine ck_g k_Rd_readNewSignal rfl rfl rfl rfl ?_
            refine ck_p (L' := [some (.ref a), some (.int (σ.1 8)), some (.int y1.1), some (.int (y1.1 - 97))]) (st' := [.int ((1 : Int32) <<< ((y1.2.1 10) &&& 31)), .int (y1.1 - 97), .ref (A 3)]) k_Rd_readNewSignal rfl rfl ?_
            refine ck_sto k_Rd_readNewSignal rfl rfl rfl (gi_in g3) (by decide) ?_
            refine ck_p (L' := [some (.ref a), some (.int (σ.1 8)), some (.int y1.1), some (.int (y1.1 - 97))]) (st' := [.ref a]) k_Rd_readNewSignal rfl rfl ?_
            refine ck_p (L' := [some (.ref a), some (.int (σ.1 8)), some (.int y1.1), some (.int (y1.1 - 97))]) (st' := [.ref a, .ref a]) k_Rd_readNewSignal rfl rfl ?_
            refine ck_g k_Rd_readNewSignal rfl rfl rfl rfl ?_
            refine ck_p (L' := [some (.ref a), some (.int (σ.1 8)), some (.int y1.1), some (.int (y1.1 - 97))]) (st' := [.int 1, .int (y1.2.1 10), .ref a]) k_Rd_readNewSignal rfl rfl ?_
            refine ck_p (L' := [some (.ref a), some (.int (σ.1 8)), some (.int y1.1), some (.int (y1.1 - 97))]) (st' := [.int ((y1.2.1 10) + 1), .ref a]) k_Rd_readNewSignal rfl rfl ?_
            refine ck_pt k_Rd_readNewSignal rfl rfl rfl trivial (Nat.le_of_ble_eq_true rfl) rfl ?_
            refine ck_p (L' := [some (.ref a), some (.int (σ.1 8)), some (.int y1.1), some (.int (y1.1 - 97))]) (st' := [.ref a]) k_Rd_readNewSignal rfl rfl ?_
            refine ck_g k_Rd_readNewSignal rfl rfl rfl rfl ?_
            refine ck_p (L' := [some (.ref a), some (.int (σ.1 8)), some (.int y1.1), some (.int (y1.1 - 97))]) (st' := [.int (y1.1 - 97), .ref (A 3)]) k_Rd_readNewSignal rfl rfl ?_
            refine ck_ld k_Rd_readNewSignal rfl rfl rfl (gi_in g3) (by decide) ?_
            cases hp
            exact ck_ret (v := some (.int _)) k_Rd_readNewSignal rfl rfl trivial rfl ⟨rfl, rfl⟩
        · skip
          rw [if_neg (show ¬ ((((y1.2.2.1 3) (y1.1 - 97).toNatClampNeg) &&& (y1.2.1 12)) = 0) from h4)] at hp
          refine ck_p (L' := [some (.ref a), some (.int (σ.1 8)), some (.int y1.1), some (.int (y1.1 - 97))]) (st' := [.ref a]) k_Rd_readNewSignal rfl rfl ?_
          refine ck_p (L' := [some (.ref a), some (.int (σ.1 8)), some (.int y1.1), some (.int (y1.1 - 97))]) (st' := [.int 2, .ref a]) k_Rd_readNewSignal rfl rfl ?_
          refine ck_p (L' := [some (.ref a), some (.int (σ.1 8)), some (.int y1.1), some (.int (y1.1 - 97))]) (st' := [.int (σ.1 8), .int 2, .ref a]) k_Rd_readNewSignal rfl rfl ?_
          cases hy6 : sp_Rd_note  2 (σ.1 8) y1.2 with
          | none =>
            rw [hy6] at hp
            cases hp
          | some y6 =>
            rw [hy6] at hp
            try dsimp only at hp
            refine ck_ivV (M' := m_Rd_note) (As := [.int 2, .int (σ.1 8)]) k_Rd_readNewSignal rfl rfl rfl rfl rfl rfl rfl (Nat.le_of_ble_eq_true rfl) (c_sp_Rd_note  hy6) ?_
            refine ck_p (L' := [some (.ref a), some (.int (σ.1 8)), some (.int y1.1), some (.int (y1.1 - 97))]) (st' := [.ref a]) k_Rd_readNewSignal rfl rfl ?_
            refine ck_g k_Rd_readNewSignal rfl rfl rfl rfl ?_
            refine ck_p (L' := [some (.ref a), some (.int (σ.1 8)), some (.int y1.1), some (.int (y1.1 - 97))]) (st' := [.int (y1.1 - 97), .ref (A 3)]) k_Rd_readNewSignal rfl rfl ?_
            refine ck_ld k_Rd_readNewSignal rfl rfl rfl (gi_in g3) (by decide) ?_
            refine ck_if k_Rd_readNewSignal rfl rfl rfl (fun h7 => ?_) (fun h7 => ?_)
            · skip
              rw [if_neg (show ¬ (((y6.2.1 3) (y1.1 - 97).toNatClampNeg) = 0) from h7)] at hp
              refine ck_p (L' := [some (.ref a), some (.int (σ.1 8)), some (.int y1.1), some (.int (y1.1 - 97))]) (st' := [.ref a]) k_Rd_readNewSignal rfl rfl ?_
              refine ck_g k_Rd_readNewSignal rfl rfl rfl rfl ?_
              refine ck_p (L' := [some (.ref a), some (.int (σ.1 8)), some (.int y1.1), some (.int (y1.1 - 97))]) (st' := [.int (y1.1 - 97), .ref (A 3)]) k_Rd_readNewSignal rfl rfl ?_
              refine ck_ld k_Rd_readNewSignal rfl rfl rfl (gi_in g3) (by decide) ?_
              cases hp
              exact ck_ret (v := some (.int _)) k_Rd_readNewSignal rfl rfl trivial rfl ⟨rfl, rfl⟩
            · skip
              rw [if_pos (show ((y6.2.1 3) (y1.1 - 97).toNatClampNeg) = 0 from h7)] at hp
              refine ck_p (L' := [some (.ref a), some (.int (σ.1 8)), some (.int y1.1), some (.int (y1.1 - 97))]) (st' := [.ref a]) k_Rd_readNewSignal rfl rfl ?_
              refine ck_g k_Rd_readNewSignal rfl rfl rfl rfl ?_
              refine ck_p (L' := [some (.ref a), some (.int (σ.1 8)), some (.int y1.1), some (.int (y1.1 - 97))]) (st' := [.int (y1.1 - 97), .ref (A 3)]) k_Rd_readNewSignal rfl rfl ?_
              refine ck_p (L' := [some (.ref a), some (.int (σ.1 8)), some (.int y1.1), some (.int (y1.1 - 97))]) (st' := [.int 1, .int (y1.1 - 97), .ref (A 3)]) k_Rd_readNewSignal rfl rfl ?_
              refine ck_p (L' := [some (.ref a), some (.int (σ.1 8)), some (.int y1.1), some (.int (y1.1 - 97))]) (st' := [.ref a, .int 1, .int (y1.1 - 97), .ref (A 3)]) k_Rd_readNewSignal rfl rfl ?_
              refine ck_g k_Rd_readNewSignal rfl rfl rfl rfl ?_
              refine ck_p (L' := [some (.ref a), some (.int (σ.1 8)), some (.int y1.1), some (.int (y1.1 - 97))]) (st' := [.int ((1 : Int32) <<< ((y6.1 10) &&& 31)), .int (y1.1 - 97), .ref (A 3)]) k_Rd_readNewSignal rfl rfl ?_
              refine ck_sto k_Rd_readNewSignal rfl rfl rfl (gi_in g3) (by decide) ?_
              refine ck_p (L' := [some (.ref a), some (.int (σ.1 8)), some (.int y1.1), some (.int (y1.1 - 97))]) (st' := [.ref a]) k_Rd_readNewSignal rfl rfl ?_
              refine ck_p (L' := [some (.ref a), some (.int (σ.1 8)), some (.int y1.1), some (.int (y1.1 - 97))]) (st' := [.ref a, .ref a]) k_Rd_readNewSignal rfl rfl ?_
              refine ck_g k_Rd_readNewSignal rfl rfl rfl rfl ?_
              refine ck_p (L' := [some (.ref a), some (.int (σ.1 8)), some (.int y1.1), some (.int (y1.1 - 97))]) (st' := [.int 1, .int (y6.1 10), .ref a]) k_Rd_readNewSignal rfl rfl ?_
              refine ck_p (L' := [some (.ref a), some (.int (σ.1 8)), some (.int y1.1), some (.int (y1.1 - 97))]) (st' := [.int ((y6.1 10) + 1), .ref a]) k_Rd_readNewSignal rfl rfl ?_
              refine ck_pt k_Rd_readNewSignal rfl rfl rfl trivial (Nat.le_of_ble_eq_true rfl) rfl ?_
              refine ck_p (L' := [some (.ref a), some (.int (σ.1 8)), some (.int y1.1), some (.int (y1.1 - 97))]) (st' := [.ref a]) k_Rd_readNewSignal rfl rfl ?_
              refine ck_g k_Rd_readNewSignal rfl rfl rfl rfl ?_
              refine ck_p (L' := [some (.ref a), some (.int (σ.1 8)), some (.int y1.1), some (.int (y1.1 - 97))]) (st' := [.int (y1.1 - 97), .ref (A 3)]) k_Rd_readNewSignal rfl rfl ?_
              refine ck_ld k_Rd_readNewSignal rfl rfl rfl (gi_in g3) (by decide) ?_
              cases hp
              exact ck_ret (v := some (.int _)) k_Rd_readNewSignal rfl rfl trivial rfl ⟨rfl, rfl⟩
      · rw [if_neg g3] at hp
        cases hp
    · skip
      rw [if_pos (show y1.1 = (-1) from h2)] at hp
      refine ck_p (L' := [some (.ref a), some (.int (σ.1 8)), some (.int y1.1), none]) (st' := [.int 0]) k_Rd_readNewSignal rfl rfl ?_
      cases hp
      exact ck_ret (v := some (.int _)) k_Rd_readNewSignal rfl rfl trivial rfl ⟨rfl, rfl⟩
def sp_Rd_readSignals_7   : Nat → Int32 → Int32 → ck_S → Option (Int32 × ck_S)
  | 0, _, _, _ => none
  | m + 1, v1, v2, σ => (if (500 : Int32) ≤ v2 then some (((σ.1 10) - v1), σ) else (match sp_Rd_seesLetter   σ with
  | none => none
  | some y2 => (if y2.1 = 0 then some (((y2.2.1 10) - v1), y2.2) else (match sp_Rd_readNewSignal   y2.2 with
  | none => none
  | some y4 => sp_Rd_readSignals_7    m v1 (v2 + 1) ((upd y4.2.1 12 ((y2.2.1 12) ||| y4.1)), y4.2.2.1, y4.2.2.2.1, y4.2.2.2.2.1, y4.2.2.2.2.2.1, y4.2.2.2.2.2.2)))))
theorem c_sp_Rd_readSignals_7  {r : Int32 × ck_S} : ∀ (m : Nat) (v1 : Int32) (v2 : Int32) (σ : ck_S), sp_Rd_readSignals_7   m v1 v2 σ = some r → ck_Go l F (d + 3) m_Rd_readSignals rd_K a A 7 ([some (.ref a), some (.int v1), some (.int v2)]) [] σ (fun w σ' => w = some (.int r.1) ∧ σ' = r.2) := by
  intro m
  induction m with
  | zero => intro v1 v2 σ hp; cases hp
  | succ m ihm =>
    intro v1 v2 σ hp
    unfold sp_Rd_readSignals_7 at hp
    refine ck_p (L' := [some (.ref a), some (.int v1), some (.int v2)]) (st' := [.int v2]) k_Rd_readSignals rfl rfl ?_
    refine ck_p (L' := [some (.ref a), some (.int v1), some (.int v2)]) (st' := [.int 500, .int v2]) k_Rd_readSignals rfl rfl ?_
    refine ck_ic k_Rd_readSignals rfl rfl rfl (fun h1 => ?_) (fun h1 => ?_)
    · skip
      rw [if_pos (show (500 : Int32) ≤ v2 from h1)] at hp
      refine ck_p (L' := [some (.ref a), some (.int v1), some (.int v2)]) (st' := [.ref a]) k_Rd_readSignals rfl rfl ?_
      refine ck_g k_Rd_readSignals rfl rfl rfl rfl ?_
      refine ck_p (L' := [some (.ref a), some (.int v1), some (.int v2)]) (st' := [.int v1, .int (σ.1 10)]) k_Rd_readSignals rfl rfl ?_
      refine ck_p (L' := [some (.ref a), some (.int v1), some (.int v2)]) (st' := [.int ((σ.1 10) - v1)]) k_Rd_readSignals rfl rfl ?_
      cases hp
      exact ck_ret (v := some (.int _)) k_Rd_readSignals rfl rfl trivial rfl ⟨rfl, rfl⟩
    · skip
      rw [if_neg (show ¬ ((500 : Int32) ≤ v2) from h1)] at hp
      refine ck_p (L' := [some (.ref a), some (.int v1), some (.int v2)]) (st' := [.ref a]) k_Rd_readSignals rfl rfl ?_
      cases hy2 : sp_Rd_seesLetter   σ with
      | none =>
        rw [hy2] at hp
        cases hp
      | some y2 =>
        rw [hy2] at hp
        try dsimp only at hp
        refine ck_ivB (M' := m_Rd_seesLetter) (As := []) k_Rd_readSignals rfl rfl rfl rfl rfl rfl rfl (Nat.le_of_ble_eq_true rfl) (c_sp_Rd_seesLetter  hy2) (fun hby2 => ?_)
        refine ck_if k_Rd_readSignals rfl rfl rfl (fun h3 => ?_) (fun h3 => ?_)
        · skip
          rw [if_pos (show y2.1 = 0 from h3)] at hp
          refine ck_p (L' := [some (.ref a), some (.int v1), some (.int v2)]) (st' := [.ref a]) k_Rd_readSignals rfl rfl ?_
          refine ck_g k_Rd_readSignals rfl rfl rfl rfl ?_
          refine ck_p (L' := [some (.ref a), some (.int v1), some (.int v2)]) (st' := [.int v1, .int (y2.2.1 10)]) k_Rd_readSignals rfl rfl ?_
          refine ck_p (L' := [some (.ref a), some (.int v1), some (.int v2)]) (st' := [.int ((y2.2.1 10) - v1)]) k_Rd_readSignals rfl rfl ?_
          cases hp
          exact ck_ret (v := some (.int _)) k_Rd_readSignals rfl rfl trivial rfl ⟨rfl, rfl⟩
        · skip
          rw [if_neg (show ¬ (y2.1 = 0) from h3)] at hp
          refine ck_p (L' := [some (.ref a), some (.int v1), some (.int v2)]) (st' := [.ref a]) k_Rd_readSignals rfl rfl ?_
          refine ck_p (L' := [some (.ref a), some (.int v1), some (.int v2)]) (st' := [.ref a, .ref a]) k_Rd_readSignals rfl rfl ?_
          refine ck_g k_Rd_readSignals rfl rfl rfl rfl ?_
          refine ck_p (L' := [some (.ref a), some (.int v1), some (.int v2)]) (st' := [.ref a, .int (y2.2.1 12), .ref a]) k_Rd_readSignals rfl rfl ?_
          cases hy4 : sp_Rd_readNewSignal   y2.2 with
          | none =>
            rw [hy4] at hp
            cases hp
          | some y4 =>
            rw [hy4] at hp
            try dsimp only at hp
            refine ck_ivB (M' := m_Rd_readNewSignal) (As := []) k_Rd_readSignals rfl rfl rfl rfl rfl rfl rfl (Nat.le_of_ble_eq_true rfl) (c_sp_Rd_readNewSignal  hy4) (fun hby4 => ?_)
            refine ck_p (L' := [some (.ref a), some (.int v1), some (.int v2)]) (st' := [.int ((y2.2.1 12) ||| y4.1), .ref a]) k_Rd_readSignals rfl rfl ?_
            refine ck_pt k_Rd_readSignals rfl rfl rfl trivial (Nat.le_of_ble_eq_true rfl) rfl ?_
            refine ck_p (L' := [some (.ref a), some (.int v1), some (.int (v2 + 1))]) (st' := []) k_Rd_readSignals rfl rfl ?_
            refine ck_j k_Rd_readSignals rfl rfl ?_
            exact ihm _ _ _ hp
def sp_Rd_readSignals   (σ : ck_S) : Option (Int32 × ck_S) := sp_Rd_readSignals_7   2601 (σ.1 10) 0 σ
theorem c_sp_Rd_readSignals   {σ : ck_S} {r : Int32 × ck_S} (hp : sp_Rd_readSignals   σ = some r) : ck_Has l F (d + 3) m_Rd_readSignals rd_K a A [.ref a] σ (fun w σ' => w = some (.int r.1) ∧ σ' = r.2) := by
  refine ck_meth (k := 2) (L := [some (.ref a), none, none]) pn_Rd rfl (Nat.le_of_ble_eq_true rfl) ?_
  unfold sp_Rd_readSignals at hp
  refine ck_p (L' := [some (.ref a), none, none]) (st' := [.ref a]) k_Rd_readSignals rfl rfl ?_
  refine ck_g k_Rd_readSignals rfl rfl rfl rfl ?_
  refine ck_p (L' := [some (.ref a), some (.int (σ.1 10)), none]) (st' := []) k_Rd_readSignals rfl rfl ?_
  refine ck_p (L' := [some (.ref a), some (.int (σ.1 10)), none]) (st' := [.int 0]) k_Rd_readSignals rfl rfl ?_
  refine ck_p (L' := [some (.ref a), some (.int (σ.1 10)), some (.int 0)]) (st' := []) k_Rd_readSignals rfl rfl ?_
  exact c_sp_Rd_readSignals_7   _ _ _ _ hp
def sp_Rd_readToldSignal   (σ : ck_S) : Option (Int32 × ck_S) := (match sp_Rd_takeBetween  97 122 σ with
  | none => none
  | some y1 => (if y1.1 = (-1) then (if (0 &&& (y1.2.1 12)) = 0 then (match sp_Rd_note  2 (σ.1 8) y1.2 with
  | none => none
  | some y7 => some (0, y7)) else some (0, y1.2)) else (if gi (y1.1 - 97) 26 = true then (if (((y1.2.2.1 3) (y1.1 - 97).toNatClampNeg) &&& (y1.2.1 12)) = 0 then (match sp_Rd_note  2 (σ.1 8) y1.2 with
  | none => none
  | some y5 => some (((y1.2.2.1 3) (y1.1 - 97).toNatClampNeg), y5)) else some (((y1.2.2.1 3) (y1.1 - 97).toNatClampNeg), y1.2)) else none)))
theorem c_sp_Rd_readToldSignal   {σ : ck_S} {r : Int32 × ck_S} (hp : sp_Rd_readToldSignal   σ = some r) : ck_Has l F (d + 2) m_Rd_readToldSignal rd_K a A [.ref a] σ (fun w σ' => w = some (.int r.1) ∧ σ' = r.2) := by
  refine ck_meth (k := 3) (L := [some (.ref a), none, none, none]) pn_Rd rfl (Nat.le_of_ble_eq_true rfl) ?_
  unfold sp_Rd_readToldSignal at hp
  refine ck_p (L' := [some (.ref a), none, none, none]) (st' := [.ref a]) k_Rd_readToldSignal rfl rfl ?_
  refine ck_g k_Rd_readToldSignal rfl rfl rfl rfl ?_
  refine ck_p (L' := [some (.ref a), some (.int (σ.1 8)), none, none]) (st' := []) k_Rd_readToldSignal rfl rfl ?_
  refine ck_p (L' := [some (.ref a), some (.int (σ.1 8)), none, none]) (st' := [.ref a]) k_Rd_readToldSignal rfl rfl ?_
  refine ck_p (L' := [some (.ref a), some (.int (σ.1 8)), none, none]) (st' := [.int 97, .ref a]) k_Rd_readToldSignal rfl rfl ?_
  refine ck_p (L' := [some (.ref a), some (.int (σ.1 8)), none, none]) (st' := [.int 122, .int 97, .ref a]) k_Rd_readToldSignal rfl rfl ?_
  cases hy1 : sp_Rd_takeBetween  97 122 σ with
  | none =>
    rw [hy1] at hp
    cases hp
  | some y1 =>
    rw [hy1] at hp
    try dsimp only at hp
    refine ck_ivB (M' := m_Rd_takeBetween) (As := [.int 97, .int 122]) k_Rd_readToldSignal rfl rfl rfl rfl rfl rfl rfl (Nat.le_of_ble_eq_true rfl) (c_sp_Rd_takeBetween  hy1) (fun hby1 => ?_)
    refine ck_p (L' := [some (.ref a), some (.int (σ.1 8)), some (.int y1.1), none]) (st' := []) k_Rd_readToldSignal rfl rfl ?_
    refine ck_p (L' := [some (.ref a), some (.int (σ.1 8)), some (.int y1.1), none]) (st' := [.int y1.1]) k_Rd_readToldSignal rfl rfl ?_
    refine ck_p (L' := [some (.ref a), some (.int (σ.1 8)), some (.int y1.1), none]) (st' := [.int (-1), .int y1.1]) k_Rd_readToldSignal rfl rfl ?_
    refine ck_ic k_Rd_readToldSignal rfl rfl rfl (fun h2 => ?_) (fun h2 => ?_)
    · skip
      rw [if_neg (show ¬ (y1.1 = (-1)) from h2)] at hp
      refine ck_p (L' := [some (.ref a), some (.int (σ.1 8)), some (.int y1.1), none]) (st' := [.ref a]) k_Rd_readToldSignal rfl rfl ?_
      refine ck_g k_Rd_readToldSignal rfl rfl rfl rfl ?_
      refine ck_p (L' := [some (.ref a), some (.int (σ.1 8)), some (.int y1.1), none]) (st' := [.int y1.1, .ref (A 3)]) k_Rd_readToldSignal rfl rfl ?_
      refine ck_p (L' := [some (.ref a), some (.int (σ.1 8)), some (.int y1.1), none]) (st' := [.int 97, .int y1.1, .ref (A 3)]) k_Rd_readToldSignal rfl rfl ?_
      refine ck_p (L' := [some (.ref a), some (.int (σ.1 8)), some (.int y1.1), none]) (st' := [.int (y1.1 - 97), .ref (A 3)]) k_Rd_readToldSignal rfl rfl ?_
      by_cases g3 : gi (y1.1 - 97) 26 = true
      · rw [if_pos g3] at hp
        refine ck_ld k_Rd_readToldSignal rfl rfl rfl (gi_in g3) (by decide) ?_
        refine ck_p (L' := [some (.ref a), some (.int (σ.1 8)), some (.int y1.1), some (.int ((y1.2.2.1 3) (y1.1 - 97).toNatClampNeg))]) (st' := []) k_Rd_readToldSignal rfl rfl ?_
        refine ck_p (L' := [some (.ref a), some (.int (σ.1 8)), some (.int y1.1), some (.int ((y1.2.2.1 3) (y1.1 - 97).toNatClampNeg))]) (st' := [.int ((y1.2.2.1 3) (y1.1 - 97).toNatClampNeg)]) k_Rd_readToldSignal rfl rfl ?_
        refine ck_p (L' := [some (.ref a), some (.int (σ.1 8)), some (.int y1.1), some (.int ((y1.2.2.1 3) (y1.1 - 97).toNatClampNeg))]) (st' := [.ref a, .int ((y1.2.2.1 3) (y1.1 - 97).toNatClampNeg)]) k_Rd_readToldSignal rfl rfl ?_
        refine ck_g k_Rd_readToldSignal rfl rfl rfl rfl ?_
        refine ck_p (L' := [some (.ref a), some (.int (σ.1 8)), some (.int y1.1), some (.int ((y1.2.2.1 3) (y1.1 - 97).toNatClampNeg))]) (st' := [.int (((y1.2.2.1 3) (y1.1 - 97).toNatClampNeg) &&& (y1.2.1 12))]) k_Rd_readToldSignal rfl rfl ?_
        refine ck_if k_Rd_readToldSignal rfl rfl rfl (fun h4 => ?_) (fun h4 => ?_)
        · skip
          rw [if_neg (show ¬ ((((y1.2.2.1 3) (y1.1 - 97).toNatClampNeg) &&& (y1.2.1 12)) = 0) from h4)] at hp
          refine ck_p (L' := [some (.ref a), some (.int (σ.1 8)), some (.int y1.1), some (.int ((y1.2.2.1 3) (y1.1 - 97).toNatClampNeg))]) (st' := [.int ((y1.2.2.1 3) (y1.1 - 97).toNatClampNeg)]) k_Rd_readToldSignal rfl rfl ?_
          cases hp
          exact ck_ret (v := some (.int _)) k_Rd_readToldSignal rfl rfl trivial rfl ⟨rfl, rfl⟩
        · skip
          rw [if_pos (show (((y1.2.2.1 3) (y1.1 - 97).toNatClampNeg) &&& (y1.2.1 12)) = 0 from h4)] at hp
          refine ck_p (L' := [some (.ref a), some (.int (σ.1 8)), some (.int y1.1), some (.int ((y1.2.2.1 3) (y1.1 - 97).toNatClampNeg))]) (st' := [.ref a]) k_Rd_readToldSignal rfl rfl ?_
          refine ck_p (L' := [some (.ref a), some (.int (σ.1 8)), some (.int y1.1), some (.int ((y1.2.2.1 3) (y1.1 - 97).toNatClampNeg))]) (st' := [.int 2, .ref a]) k_Rd_readToldSignal rfl rfl ?_
          refine ck_p (L' := [some (.ref a), some (.int (σ.1 8)), some (.int y1.1), some (.int ((y1.2.2.1 3) (y1.1 - 97).toNatClampNeg))]) (st' := [.int (σ.1 8), .int 2, .ref a]) k_Rd_readToldSignal rfl rfl ?_
          cases hy5 : sp_Rd_note  2 (σ.1 8) y1.2 with
          | none =>
            rw [hy5] at hp
            cases hp
          | some y5 =>
            rw [hy5] at hp
            try dsimp only at hp
            refine ck_ivV (M' := m_Rd_note) (As := [.int 2, .int (σ.1 8)]) k_Rd_readToldSignal rfl rfl rfl rfl rfl rfl rfl (Nat.le_of_ble_eq_true rfl) (c_sp_Rd_note  hy5) ?_
            refine ck_p (L' := [some (.ref a), some (.int (σ.1 8)), some (.int y1.1), some (.int ((y1.2.2.1 3) (y1.1 - 97).toNatClampNeg))]) (st' := [.int ((y1.2.2.1 3) (y1.1 - 97).toNatClampNeg)]) k_Rd_readToldSignal rfl rfl ?_
            cases hp
            exact ck_ret (v := some (.int _)) k_Rd_readToldSignal rfl rfl trivial rfl ⟨rfl, rfl⟩
      · rw [if_neg g3] at hp
        cases hp
    · skip
      rw [if_pos (show y1.1 = (-1) from h2)] at hp
      refine ck_p (L' := [some (.ref a), some (.int (σ.1 8)), some (.int y1.1), none]) (st' := [.int 0]) k_Rd_readToldSignal rfl rfl ?_
      refine ck_j k_Rd_readToldSignal rfl rfl ?_
      refine ck_p (L' := [some (.ref a), some (.int (σ.1 8)), some (.int y1.1), some (.int 0)]) (st' := []) k_Rd_readToldSignal rfl rfl ?_
      refine ck_p (L' := [some (.ref a), some (.int (σ.1 8)), some (.int y1.1), some (.int 0)]) (st' := [.int 0]) k_Rd_readToldSignal rfl rfl ?_
      refine ck_p (L' := [some (.ref a), some (.int (σ.1 8)), some (.int y1.1), some (.int 0)]) (st' := [.ref a, .int 0]) k_Rd_readToldSignal rfl rfl ?_
      refine ck_g k_Rd_readToldSignal rfl rfl rfl rfl ?_
      refine ck_p (L' := [some (.ref a), some (.int (σ.1 8)), some (.int y1.1), some (.int 0)]) (st' := [.int (0 &&& (y1.2.1 12))]) k_Rd_readToldSignal rfl rfl ?_
      refine ck_if k_Rd_readToldSignal rfl rfl rfl (fun h6 => ?_) (fun h6 => ?_)
      · skip
        rw [if_neg (show ¬ ((0 &&& (y1.2.1 12)) = 0) from h6)] at hp
        refine ck_p (L' := [some (.ref a), some (.int (σ.1 8)), some (.int y1.1), some (.int 0)]) (st' := [.int 0]) k_Rd_readToldSignal rfl rfl ?_
        cases hp
        exact ck_ret (v := some (.int _)) k_Rd_readToldSignal rfl rfl trivial rfl ⟨rfl, rfl⟩
      · skip
        rw [if_pos (show (0 &&& (y1.2.1 12)) = 0 from h6)] at hp
        refine ck_p (L' := [some (.ref a), some (.int (σ.1 8)), some (.int y1.1), some (.int 0)]) (st' := [.ref a]) k_Rd_readToldSignal rfl rfl ?_
        refine ck_p (L' := [some (.ref a), some (.int (σ.1 8)), some (.int y1.1), some (.int 0)]) (st' := [.int 2, .ref a]) k_Rd_readToldSignal rfl rfl ?_
        refine ck_p (L' := [some (.ref a), some (.int (σ.1 8)), some (.int y1.1), some (.int 0)]) (st' := [.int (σ.1 8), .int 2, .ref a]) k_Rd_readToldSignal rfl rfl ?_
        cases hy7 : sp_Rd_note  2 (σ.1 8) y1.2 with
        | none =>
          rw [hy7] at hp
          cases hp
        | some y7 =>
          rw [hy7] at hp
          try dsimp only at hp
          refine ck_ivV (M' := m_Rd_note) (As := [.int 2, .int (σ.1 8)]) k_Rd_readToldSignal rfl rfl rfl rfl rfl rfl rfl (Nat.le_of_ble_eq_true rfl) (c_sp_Rd_note  hy7) ?_
          refine ck_p (L' := [some (.ref a), some (.int (σ.1 8)), some (.int y1.1), some (.int 0)]) (st' := [.int 0]) k_Rd_readToldSignal rfl rfl ?_
          cases hp
          exact ck_ret (v := some (.int _)) k_Rd_readToldSignal rfl rfl trivial rfl ⟨rfl, rfl⟩
def sp_Rd_readEmittedSignal   (σ : ck_S) : Option (Int32 × ck_S) := (match sp_Rd_readToldSignal   σ with
  | none => none
  | some y1 => (if (y1.1 &&& (y1.2.1 11)) = 0 then some (y1.1, y1.2) else (match sp_Rd_note  2 (σ.1 8) y1.2 with
  | none => none
  | some y3 => some (y1.1, y3))))
theorem c_sp_Rd_readEmittedSignal   {σ : ck_S} {r : Int32 × ck_S} (hp : sp_Rd_readEmittedSignal   σ = some r) : ck_Has l F (d + 3) m_Rd_readEmittedSignal rd_K a A [.ref a] σ (fun w σ' => w = some (.int r.1) ∧ σ' = r.2) := by
  refine ck_meth (k := 2) (L := [some (.ref a), none, none]) pn_Rd rfl (Nat.le_of_ble_eq_true rfl) ?_
  unfold sp_Rd_readEmittedSignal at hp
  refine ck_p (L' := [some (.ref a), none, none]) (st' := [.ref a]) k_Rd_readEmittedSignal rfl rfl ?_
  refine ck_g k_Rd_readEmittedSignal rfl rfl rfl rfl ?_
  refine ck_p (L' := [some (.ref a), some (.int (σ.1 8)), none]) (st' := []) k_Rd_readEmittedSignal rfl rfl ?_
  refine ck_p (L' := [some (.ref a), some (.int (σ.1 8)), none]) (st' := [.ref a]) k_Rd_readEmittedSignal rfl rfl ?_
  cases hy1 : sp_Rd_readToldSignal   σ with
  | none =>
    rw [hy1] at hp
    cases hp
  | some y1 =>
    rw [hy1] at hp
    try dsimp only at hp
    refine ck_ivB (M' := m_Rd_readToldSignal) (As := []) k_Rd_readEmittedSignal rfl rfl rfl rfl rfl rfl rfl (Nat.le_of_ble_eq_true rfl) (c_sp_Rd_readToldSignal  hy1) (fun hby1 => ?_)
    refine ck_p (L' := [some (.ref a), some (.int (σ.1 8)), some (.int y1.1)]) (st' := []) k_Rd_readEmittedSignal rfl rfl ?_
    refine ck_p (L' := [some (.ref a), some (.int (σ.1 8)), some (.int y1.1)]) (st' := [.int y1.1]) k_Rd_readEmittedSignal rfl rfl ?_
    refine ck_p (L' := [some (.ref a), some (.int (σ.1 8)), some (.int y1.1)]) (st' := [.ref a, .int y1.1]) k_Rd_readEmittedSignal rfl rfl ?_
    refine ck_g k_Rd_readEmittedSignal rfl rfl rfl rfl ?_
    refine ck_p (L' := [some (.ref a), some (.int (σ.1 8)), some (.int y1.1)]) (st' := [.int (y1.1 &&& (y1.2.1 11))]) k_Rd_readEmittedSignal rfl rfl ?_
    refine ck_if k_Rd_readEmittedSignal rfl rfl rfl (fun h2 => ?_) (fun h2 => ?_)
    · skip
      rw [if_pos (show (y1.1 &&& (y1.2.1 11)) = 0 from h2)] at hp
      refine ck_p (L' := [some (.ref a), some (.int (σ.1 8)), some (.int y1.1)]) (st' := [.int y1.1]) k_Rd_readEmittedSignal rfl rfl ?_
      cases hp
      exact ck_ret (v := some (.int _)) k_Rd_readEmittedSignal rfl rfl trivial rfl ⟨rfl, rfl⟩
    · skip
      rw [if_neg (show ¬ ((y1.1 &&& (y1.2.1 11)) = 0) from h2)] at hp
      refine ck_p (L' := [some (.ref a), some (.int (σ.1 8)), some (.int y1.1)]) (st' := [.ref a]) k_Rd_readEmittedSignal rfl rfl ?_
      refine ck_p (L' := [some (.ref a), some (.int (σ.1 8)), some (.int y1.1)]) (st' := [.int 2, .ref a]) k_Rd_readEmittedSignal rfl rfl ?_
      refine ck_p (L' := [some (.ref a), some (.int (σ.1 8)), some (.int y1.1)]) (st' := [.int (σ.1 8), .int 2, .ref a]) k_Rd_readEmittedSignal rfl rfl ?_
      cases hy3 : sp_Rd_note  2 (σ.1 8) y1.2 with
      | none =>
        rw [hy3] at hp
        cases hp
      | some y3 =>
        rw [hy3] at hp
        try dsimp only at hp
        refine ck_ivV (M' := m_Rd_note) (As := [.int 2, .int (σ.1 8)]) k_Rd_readEmittedSignal rfl rfl rfl rfl rfl rfl rfl (Nat.le_of_ble_eq_true rfl) (c_sp_Rd_note  hy3) ?_
        refine ck_p (L' := [some (.ref a), some (.int (σ.1 8)), some (.int y1.1)]) (st' := [.int y1.1]) k_Rd_readEmittedSignal rfl rfl ?_
        cases hp
        exact ck_ret (v := some (.int _)) k_Rd_readEmittedSignal rfl rfl trivial rfl ⟨rfl, rfl⟩
def sp_Rd_newPause  (v1 : Int32) (σ : ck_S) : Option (Option Nat × ck_S) := (if (σ.1 16) < 30 then (if gi (σ.1 16) 30 = true then (match sp_Node_init  σ.2.2.2.2.1 1 ((1 : Int32) <<< ((σ.1 16) &&& 31)) none ((upd σ.1 16 ((σ.1 16) + 1)), (gm_up σ.2.1 5 (upd (σ.2.1 5) (σ.1 16).toNatClampNeg v1)), σ.2.2.1, (eset σ.2.2.2.1 σ.2.2.2.2.1 (.inr (2, gx_def gx_kd2))), (σ.2.2.2.2.1 + 1), (σ.2.2.2.2.2 + 6)) with
  | none => none
  | some y3 => some ((some σ.2.2.2.2.1), y3)) else none) else (match sp_Rd_note  4 v1 ((upd σ.1 16 ((σ.1 16) + 1)), σ.2.1, σ.2.2.1, σ.2.2.2.1, σ.2.2.2.2.1, σ.2.2.2.2.2) with
  | none => none
  | some y4 => (match sp_Node_init  y4.2.2.2.2.1 1 0 none (y4.1, y4.2.1, y4.2.2.1, (eset y4.2.2.2.1 y4.2.2.2.2.1 (.inr (2, gx_def gx_kd2))), (y4.2.2.2.2.1 + 1), (y4.2.2.2.2.2 + 6)) with
  | none => none
  | some y5 => some ((some y4.2.2.2.2.1), y5))))
theorem c_sp_Rd_newPause  {v1 : Int32} {σ : ck_S} {r : Option Nat × ck_S} (hp : sp_Rd_newPause  v1 σ = some r) : ck_Has l F (d + 3) m_Rd_newPause rd_K a A [.ref a, .int v1] σ (fun w σ' => w = some (va_rf r.1) ∧ σ' = r.2) := by
  refine ck_meth (k := 1) (L := [some (.ref a), some (.int v1), none]) pn_Rd rfl (Nat.le_of_ble_eq_true rfl) ?_
  unfold sp_Rd_newPause at hp
  refine ck_p (L' := [some (.ref a), some (.int v1), none]) (st' := [.ref a]) k_Rd_newPause rfl rfl ?_
  refine ck_g k_Rd_newPause rfl rfl rfl rfl ?_
  refine ck_p (L' := [some (.ref a), some (.int v1), some (.int (σ.1 16))]) (st' := []) k_Rd_newPause rfl rfl ?_
  refine ck_p (L' := [some (.ref a), some (.int v1), some (.int (σ.1 16))]) (st' := [.ref a]) k_Rd_newPause rfl rfl ?_
  refine ck_p (L' := [some (.ref a), some (.int v1), some (.int (σ.1 16))]) (st' := [.ref a, .ref a]) k_Rd_newPause rfl rfl ?_
  refine ck_g k_Rd_newPause rfl rfl rfl rfl ?_
  refine ck_p (L' := [some (.ref a), some (.int v1), some (.int (σ.1 16))]) (st' := [.int 1, .int (σ.1 16), .ref a]) k_Rd_newPause rfl rfl ?_
  refine ck_p (L' := [some (.ref a), some (.int v1), some (.int (σ.1 16))]) (st' := [.int ((σ.1 16) + 1), .ref a]) k_Rd_newPause rfl rfl ?_
  refine ck_pt k_Rd_newPause rfl rfl rfl trivial (Nat.le_of_ble_eq_true rfl) rfl ?_
  refine ck_p (L' := [some (.ref a), some (.int v1), some (.int (σ.1 16))]) (st' := [.int (σ.1 16)]) k_Rd_newPause rfl rfl ?_
  refine ck_p (L' := [some (.ref a), some (.int v1), some (.int (σ.1 16))]) (st' := [.int 30, .int (σ.1 16)]) k_Rd_newPause rfl rfl ?_
  refine ck_ic k_Rd_newPause rfl rfl rfl (fun h1 => ?_) (fun h1 => ?_)
  · skip
    rw [if_pos (show (σ.1 16) < 30 from h1)] at hp
    refine ck_p (L' := [some (.ref a), some (.int v1), some (.int (σ.1 16))]) (st' := [.ref a]) k_Rd_newPause rfl rfl ?_
    refine ck_g k_Rd_newPause rfl rfl rfl rfl ?_
    refine ck_p (L' := [some (.ref a), some (.int v1), some (.int (σ.1 16))]) (st' := [.int (σ.1 16), .ref (A 5)]) k_Rd_newPause rfl rfl ?_
    refine ck_p (L' := [some (.ref a), some (.int v1), some (.int (σ.1 16))]) (st' := [.int v1, .int (σ.1 16), .ref (A 5)]) k_Rd_newPause rfl rfl ?_
    by_cases g2 : gi (σ.1 16) 30 = true
    · rw [if_pos g2] at hp
      refine ck_sto k_Rd_newPause rfl rfl rfl (gi_in g2) (by decide) ?_
      refine ck_nw k_Rd_newPause rfl rfl rfl rfl rfl rfl ?_
      refine ck_p (L' := [some (.ref a), some (.int v1), some (.int (σ.1 16))]) (st' := [.ref σ.2.2.2.2.1, .ref σ.2.2.2.2.1]) k_Rd_newPause rfl rfl ?_
      refine ck_p (L' := [some (.ref a), some (.int v1), some (.int (σ.1 16))]) (st' := [.int 1, .ref σ.2.2.2.2.1, .ref σ.2.2.2.2.1]) k_Rd_newPause rfl rfl ?_
      refine ck_p (L' := [some (.ref a), some (.int v1), some (.int (σ.1 16))]) (st' := [.int 1, .int 1, .ref σ.2.2.2.2.1, .ref σ.2.2.2.2.1]) k_Rd_newPause rfl rfl ?_
      refine ck_p (L' := [some (.ref a), some (.int v1), some (.int (σ.1 16))]) (st' := [.int (σ.1 16), .int 1, .int 1, .ref σ.2.2.2.2.1, .ref σ.2.2.2.2.1]) k_Rd_newPause rfl rfl ?_
      refine ck_p (L' := [some (.ref a), some (.int v1), some (.int (σ.1 16))]) (st' := [.int ((1 : Int32) <<< ((σ.1 16) &&& 31)), .int 1, .ref σ.2.2.2.2.1, .ref σ.2.2.2.2.1]) k_Rd_newPause rfl rfl ?_
      refine ck_p (L' := [some (.ref a), some (.int v1), some (.int (σ.1 16))]) (st' := [.null, .int ((1 : Int32) <<< ((σ.1 16) &&& 31)), .int 1, .ref σ.2.2.2.2.1, .ref σ.2.2.2.2.1]) k_Rd_newPause rfl rfl ?_
      cases hy3 : sp_Node_init  σ.2.2.2.2.1 1 ((1 : Int32) <<< ((σ.1 16) &&& 31)) none ((upd σ.1 16 ((σ.1 16) + 1)), (gm_up σ.2.1 5 (upd (σ.2.1 5) (σ.1 16).toNatClampNeg v1)), σ.2.2.1, (eset σ.2.2.2.1 σ.2.2.2.2.1 (.inr (2, gx_def gx_kd2))), (σ.2.2.2.2.1 + 1), (σ.2.2.2.2.2 + 6)) with
      | none =>
        rw [hy3] at hp
        cases hp
      | some y3 =>
        rw [hy3] at hp
        try dsimp only at hp
        refine ck_inV (M' := m_Node_init) (As := [.int 1, .int ((1 : Int32) <<< ((σ.1 16) &&& 31)), .null]) k_Rd_newPause rfl rfl rfl rfl rfl rfl (Nat.le_of_ble_eq_true rfl) (c_sp_Node_init  hy3) ?_
        cases hp
        exact ck_ret (v := some (va_rf (some σ.2.2.2.2.1))) k_Rd_newPause rfl rfl trivial rfl ⟨rfl, rfl⟩
    · rw [if_neg g2] at hp
      cases hp
  · skip
    rw [if_neg (show ¬ ((σ.1 16) < 30) from h1)] at hp
    refine ck_p (L' := [some (.ref a), some (.int v1), some (.int (σ.1 16))]) (st' := [.ref a]) k_Rd_newPause rfl rfl ?_
    refine ck_p (L' := [some (.ref a), some (.int v1), some (.int (σ.1 16))]) (st' := [.int 4, .ref a]) k_Rd_newPause rfl rfl ?_
    refine ck_p (L' := [some (.ref a), some (.int v1), some (.int (σ.1 16))]) (st' := [.int v1, .int 4, .ref a]) k_Rd_newPause rfl rfl ?_
    cases hy4 : sp_Rd_note  4 v1 ((upd σ.1 16 ((σ.1 16) + 1)), σ.2.1, σ.2.2.1, σ.2.2.2.1, σ.2.2.2.2.1, σ.2.2.2.2.2) with
    | none =>
      rw [hy4] at hp
      cases hp
    | some y4 =>
      rw [hy4] at hp
      try dsimp only at hp
      refine ck_ivV (M' := m_Rd_note) (As := [.int 4, .int v1]) k_Rd_newPause rfl rfl rfl rfl rfl rfl rfl (Nat.le_of_ble_eq_true rfl) (c_sp_Rd_note  hy4) ?_
      refine ck_nw k_Rd_newPause rfl rfl rfl rfl rfl rfl ?_
      refine ck_p (L' := [some (.ref a), some (.int v1), some (.int (σ.1 16))]) (st' := [.ref y4.2.2.2.2.1, .ref y4.2.2.2.2.1]) k_Rd_newPause rfl rfl ?_
      refine ck_p (L' := [some (.ref a), some (.int v1), some (.int (σ.1 16))]) (st' := [.int 1, .ref y4.2.2.2.2.1, .ref y4.2.2.2.2.1]) k_Rd_newPause rfl rfl ?_
      refine ck_p (L' := [some (.ref a), some (.int v1), some (.int (σ.1 16))]) (st' := [.int 0, .int 1, .ref y4.2.2.2.2.1, .ref y4.2.2.2.2.1]) k_Rd_newPause rfl rfl ?_
      refine ck_p (L' := [some (.ref a), some (.int v1), some (.int (σ.1 16))]) (st' := [.null, .int 0, .int 1, .ref y4.2.2.2.2.1, .ref y4.2.2.2.2.1]) k_Rd_newPause rfl rfl ?_
      cases hy5 : sp_Node_init  y4.2.2.2.2.1 1 0 none (y4.1, y4.2.1, y4.2.2.1, (eset y4.2.2.2.1 y4.2.2.2.2.1 (.inr (2, gx_def gx_kd2))), (y4.2.2.2.2.1 + 1), (y4.2.2.2.2.2 + 6)) with
      | none =>
        rw [hy5] at hp
        cases hp
      | some y5 =>
        rw [hy5] at hp
        try dsimp only at hp
        refine ck_inV (M' := m_Node_init) (As := [.int 1, .int 0, .null]) k_Rd_newPause rfl rfl rfl rfl rfl rfl (Nat.le_of_ble_eq_true rfl) (c_sp_Node_init  hy5) ?_
        cases hp
        exact ck_ret (v := some (va_rf (some y4.2.2.2.2.1))) k_Rd_newPause rfl rfl trivial rfl ⟨rfl, rfl⟩
def sp_Rd_chain  (v0 : Option Nat) (v1 : Option Nat) (σ : ck_S) : Option (Option Nat × ck_S) := (match v0 with
  | none => none
  | some b1 => (match ep σ.2.2.2.1 b1 2 5 (va_rf v1) with
  | none => none
  | some y2 => some ((some b1), (σ.1, σ.2.1, σ.2.2.1, y2, σ.2.2.2.2.1, σ.2.2.2.2.2))))
theorem c_sp_Rd_chain  {v0 : Option Nat} {v1 : Option Nat} {σ : ck_S} {r : Option Nat × ck_S} (hp : sp_Rd_chain  v0 v1 σ = some r) : ck_Has l F (d) m_Rd_chain rd_K a A [va_rf v0, va_rf v1] σ (fun w σ' => w = some (va_rf r.1) ∧ σ' = r.2) := by
  refine ck_meth (k := 0) (L := [some (va_rf v0), some (va_rf v1)]) pn_Rd (by cases v0 <;> cases v1 <;> rfl) (by cases v0 <;> cases v1 <;> exact (Nat.le_of_ble_eq_true rfl)) ?_
  unfold sp_Rd_chain at hp
  refine ck_p (L' := [some (va_rf v0), some (va_rf v1)]) (st' := [va_rf v0]) k_Rd_chain rfl (by cases v0 <;> rfl) ?_
  refine ck_p (L' := [some (va_rf v0), some (va_rf v1)]) (st' := [va_rf v1, va_rf v0]) k_Rd_chain rfl (by cases v1 <;> rfl) ?_
  cases v0 with
  | none =>
    try dsimp only at hp
    cases hp
  | some b1 =>
    try dsimp only at hp
    cases hy2 : ep σ.2.2.2.1 b1 2 5 (va_rf v1) with
    | none =>
      rw [hy2] at hp
      cases hp
    | some y2 =>
      rw [hy2] at hp
      try dsimp only at hp
      refine ck_pE k_Rd_chain rfl rfl rfl (by cases v1 <;> exact trivial) hy2 ?_
      refine ck_p (L' := [some (.ref b1), some (va_rf v1)]) (st' := [.ref b1]) k_Rd_chain rfl rfl ?_
      cases hp
      exact ck_ret (v := some (va_rf (some b1))) k_Rd_chain rfl rfl trivial rfl ⟨rfl, rfl⟩
def sp_Rd_newEmit  (v0 : Int32) (σ : ck_S) : Option (Option Nat × ck_S) := (match sp_Node_init  σ.2.2.2.2.1 2 v0 none (σ.1, σ.2.1, σ.2.2.1, (eset σ.2.2.2.1 σ.2.2.2.2.1 (.inr (2, gx_def gx_kd2))), (σ.2.2.2.2.1 + 1), (σ.2.2.2.2.2 + 6)) with
  | none => none
  | some y1 => some ((some σ.2.2.2.2.1), y1))
theorem c_sp_Rd_newEmit  {v0 : Int32} {σ : ck_S} {r : Option Nat × ck_S} (hp : sp_Rd_newEmit  v0 σ = some r) : ck_Has l F (d + 3) m_Rd_newEmit rd_K a A [.int v0] σ (fun w σ' => w = some (va_rf r.1) ∧ σ' = r.2) := by
  refine ck_meth (k := 0) (L := [some (.int v0)]) pn_Rd rfl (Nat.le_of_ble_eq_true rfl) ?_
  unfold sp_Rd_newEmit at hp
  refine ck_nw k_Rd_newEmit rfl rfl rfl rfl rfl rfl ?_
  refine ck_p (L' := [some (.int v0)]) (st' := [.ref σ.2.2.2.2.1, .ref σ.2.2.2.2.1]) k_Rd_newEmit rfl rfl ?_
  refine ck_p (L' := [some (.int v0)]) (st' := [.int 2, .ref σ.2.2.2.2.1, .ref σ.2.2.2.2.1]) k_Rd_newEmit rfl rfl ?_
  refine ck_p (L' := [some (.int v0)]) (st' := [.int v0, .int 2, .ref σ.2.2.2.2.1, .ref σ.2.2.2.2.1]) k_Rd_newEmit rfl rfl ?_
  refine ck_p (L' := [some (.int v0)]) (st' := [.null, .int v0, .int 2, .ref σ.2.2.2.2.1, .ref σ.2.2.2.2.1]) k_Rd_newEmit rfl rfl ?_
  cases hy1 : sp_Node_init  σ.2.2.2.2.1 2 v0 none (σ.1, σ.2.1, σ.2.2.1, (eset σ.2.2.2.1 σ.2.2.2.2.1 (.inr (2, gx_def gx_kd2))), (σ.2.2.2.2.1 + 1), (σ.2.2.2.2.2 + 6)) with
  | none =>
    rw [hy1] at hp
    cases hp
  | some y1 =>
    rw [hy1] at hp
    try dsimp only at hp
    refine ck_inV (M' := m_Node_init) (As := [.int 2, .int v0, .null]) k_Rd_newEmit rfl rfl rfl rfl rfl rfl (Nat.le_of_ble_eq_true rfl) (c_sp_Node_init  hy1) ?_
    cases hp
    exact ck_ret (v := some (va_rf (some σ.2.2.2.2.1))) k_Rd_newEmit rfl rfl trivial rfl ⟨rfl, rfl⟩
def sp_Rd_newExit  (v0 : Int32) (σ : ck_S) : Option (Option Nat × ck_S) := (match sp_Node_init  σ.2.2.2.2.1 7 v0 none (σ.1, σ.2.1, σ.2.2.1, (eset σ.2.2.2.1 σ.2.2.2.2.1 (.inr (2, gx_def gx_kd2))), (σ.2.2.2.2.1 + 1), (σ.2.2.2.2.2 + 6)) with
  | none => none
  | some y1 => some ((some σ.2.2.2.2.1), y1))
theorem c_sp_Rd_newExit  {v0 : Int32} {σ : ck_S} {r : Option Nat × ck_S} (hp : sp_Rd_newExit  v0 σ = some r) : ck_Has l F (d + 3) m_Rd_newExit rd_K a A [.int v0] σ (fun w σ' => w = some (va_rf r.1) ∧ σ' = r.2) := by
  refine ck_meth (k := 0) (L := [some (.int v0)]) pn_Rd rfl (Nat.le_of_ble_eq_true rfl) ?_
  unfold sp_Rd_newExit at hp
  refine ck_nw k_Rd_newExit rfl rfl rfl rfl rfl rfl ?_
  refine ck_p (L' := [some (.int v0)]) (st' := [.ref σ.2.2.2.2.1, .ref σ.2.2.2.2.1]) k_Rd_newExit rfl rfl ?_
  refine ck_p (L' := [some (.int v0)]) (st' := [.int 7, .ref σ.2.2.2.2.1, .ref σ.2.2.2.2.1]) k_Rd_newExit rfl rfl ?_
  refine ck_p (L' := [some (.int v0)]) (st' := [.int v0, .int 7, .ref σ.2.2.2.2.1, .ref σ.2.2.2.2.1]) k_Rd_newExit rfl rfl ?_
  refine ck_p (L' := [some (.int v0)]) (st' := [.null, .int v0, .int 7, .ref σ.2.2.2.2.1, .ref σ.2.2.2.2.1]) k_Rd_newExit rfl rfl ?_
  cases hy1 : sp_Node_init  σ.2.2.2.2.1 7 v0 none (σ.1, σ.2.1, σ.2.2.1, (eset σ.2.2.2.1 σ.2.2.2.2.1 (.inr (2, gx_def gx_kd2))), (σ.2.2.2.2.1 + 1), (σ.2.2.2.2.2 + 6)) with
  | none =>
    rw [hy1] at hp
    cases hp
  | some y1 =>
    rw [hy1] at hp
    try dsimp only at hp
    refine ck_inV (M' := m_Node_init) (As := [.int 7, .int v0, .null]) k_Rd_newExit rfl rfl rfl rfl rfl rfl (Nat.le_of_ble_eq_true rfl) (c_sp_Node_init  hy1) ?_
    cases hp
    exact ck_ret (v := some (va_rf (some σ.2.2.2.2.1))) k_Rd_newExit rfl rfl trivial rfl ⟨rfl, rfl⟩
def sp_Rd_nothing   (σ : ck_S) : Option (Option Nat × ck_S) := (match sp_Node_init  σ.2.2.2.2.1 0 0 none (σ.1, σ.2.1, σ.2.2.1, (eset σ.2.2.2.1 σ.2.2.2.2.1 (.inr (2, gx_def gx_kd2))), (σ.2.2.2.2.1 + 1), (σ.2.2.2.2.2 + 6)) with
  | none => none
  | some y1 => some ((some σ.2.2.2.2.1), y1))
theorem c_sp_Rd_nothing   {σ : ck_S} {r : Option Nat × ck_S} (hp : sp_Rd_nothing   σ = some r) : ck_Has l F (d + 3) m_Rd_nothing rd_K a A [] σ (fun w σ' => w = some (va_rf r.1) ∧ σ' = r.2) := by
  refine ck_meth (k := 0) (L := []) pn_Rd rfl (Nat.le_of_ble_eq_true rfl) ?_
  unfold sp_Rd_nothing at hp
  refine ck_nw k_Rd_nothing rfl rfl rfl rfl rfl rfl ?_
  refine ck_p (L' := []) (st' := [.ref σ.2.2.2.2.1, .ref σ.2.2.2.2.1]) k_Rd_nothing rfl rfl ?_
  refine ck_p (L' := []) (st' := [.int 0, .ref σ.2.2.2.2.1, .ref σ.2.2.2.2.1]) k_Rd_nothing rfl rfl ?_
  refine ck_p (L' := []) (st' := [.int 0, .int 0, .ref σ.2.2.2.2.1, .ref σ.2.2.2.2.1]) k_Rd_nothing rfl rfl ?_
  refine ck_p (L' := []) (st' := [.null, .int 0, .int 0, .ref σ.2.2.2.2.1, .ref σ.2.2.2.2.1]) k_Rd_nothing rfl rfl ?_
  cases hy1 : sp_Node_init  σ.2.2.2.2.1 0 0 none (σ.1, σ.2.1, σ.2.2.1, (eset σ.2.2.2.1 σ.2.2.2.2.1 (.inr (2, gx_def gx_kd2))), (σ.2.2.2.2.1 + 1), (σ.2.2.2.2.2 + 6)) with
  | none =>
    rw [hy1] at hp
    cases hp
  | some y1 =>
    rw [hy1] at hp
    try dsimp only at hp
    refine ck_inV (M' := m_Node_init) (As := [.int 0, .int 0, .null]) k_Rd_nothing rfl rfl rfl rfl rfl rfl (Nat.le_of_ble_eq_true rfl) (c_sp_Node_init  hy1) ?_
    cases hp
    exact ck_ret (v := some (va_rf (some σ.2.2.2.2.1))) k_Rd_nothing rfl rfl trivial rfl ⟨rfl, rfl⟩
def sp_Rd_newWatch  (v1 : Int32) (v2 : Int32) (σ : ck_S) : Option (Option Nat × ck_S) := (match sp_Rd_newPause  v2 σ with
  | none => none
  | some y1 => (match sp_Rd_newExit  2 (y1.2.1, y1.2.2.1, y1.2.2.2.1, (eset y1.2.2.2.2.1 y1.2.2.2.2.2.1 (.inr (2, gx_def gx_kd2))), (y1.2.2.2.2.2.1 + 1), (y1.2.2.2.2.2.2 + 6)) with
  | none => none
  | some y2 => (match sp_Rd_nothing   y2.2 with
  | none => none
  | some y3 => (match sp_Rd_chain  y2.1 y3.1 y3.2 with
  | none => none
  | some y4 => (match sp_Node_init  y1.2.2.2.2.2.1 3 v1 y4.1 y4.2 with
  | none => none
  | some y5 => (match sp_Rd_chain  y1.1 (some y1.2.2.2.2.2.1) (y5.1, y5.2.1, y5.2.2.1, (eset (eset y5.2.2.2.1 y5.2.2.2.2.1 (.inr (2, gx_def gx_kd2))) (y5.2.2.2.2.1 + 1) (.inr (2, gx_def gx_kd2))), ((y5.2.2.2.2.1 + 1) + 1), ((y5.2.2.2.2.2 + 6) + 6)) with
  | none => none
  | some y6 => (match sp_Node_init  (y5.2.2.2.2.1 + 1) 9 0 y6.1 y6.2 with
  | none => none
  | some y7 => (match sp_Node_init  y5.2.2.2.2.1 4 0 (some (y5.2.2.2.2.1 + 1)) y7 with
  | none => none
  | some y8 => some ((some y5.2.2.2.2.1), y8)))))))))
theorem c_sp_Rd_newWatch  {v1 : Int32} {v2 : Int32} {σ : ck_S} {r : Option Nat × ck_S} (hp : sp_Rd_newWatch  v1 v2 σ = some r) : ck_Has l F (d + 4) m_Rd_newWatch rd_K a A [.ref a, .int v1, .int v2] σ (fun w σ' => w = some (va_rf r.1) ∧ σ' = r.2) := by
  refine ck_meth (k := 2) (L := [some (.ref a), some (.int v1), some (.int v2), none, none]) pn_Rd rfl (Nat.le_of_ble_eq_true rfl) ?_
  unfold sp_Rd_newWatch at hp
  refine ck_p (L' := [some (.ref a), some (.int v1), some (.int v2), none, none]) (st' := [.ref a]) k_Rd_newWatch rfl rfl ?_
  refine ck_p (L' := [some (.ref a), some (.int v1), some (.int v2), none, none]) (st' := [.int v2, .ref a]) k_Rd_newWatch rfl rfl ?_
  cases hy1 : sp_Rd_newPause  v2 σ with
  | none =>
    rw [hy1] at hp
    cases hp
  | some y1 =>
    rw [hy1] at hp
    try dsimp only at hp
    refine ck_ivB (M' := m_Rd_newPause) (As := [.int v2]) k_Rd_newWatch rfl rfl rfl rfl rfl rfl rfl (Nat.le_of_ble_eq_true rfl) (c_sp_Rd_newPause  hy1) (fun hby1 => ?_)
    refine ck_p (L' := [some (.ref a), some (.int v1), some (.int v2), some (va_rf y1.1), none]) (st' := []) k_Rd_newWatch rfl (by cases y1.1 <;> rfl) ?_
    refine ck_nw k_Rd_newWatch rfl rfl rfl rfl rfl rfl ?_
    refine ck_p (L' := [some (.ref a), some (.int v1), some (.int v2), some (va_rf y1.1), none]) (st' := [.ref y1.2.2.2.2.2.1, .ref y1.2.2.2.2.2.1]) k_Rd_newWatch rfl rfl ?_
    refine ck_p (L' := [some (.ref a), some (.int v1), some (.int v2), some (va_rf y1.1), none]) (st' := [.int 3, .ref y1.2.2.2.2.2.1, .ref y1.2.2.2.2.2.1]) k_Rd_newWatch rfl rfl ?_
    refine ck_p (L' := [some (.ref a), some (.int v1), some (.int v2), some (va_rf y1.1), none]) (st' := [.int v1, .int 3, .ref y1.2.2.2.2.2.1, .ref y1.2.2.2.2.2.1]) k_Rd_newWatch rfl rfl ?_
    refine ck_p (L' := [some (.ref a), some (.int v1), some (.int v2), some (va_rf y1.1), none]) (st' := [.int 2, .int v1, .int 3, .ref y1.2.2.2.2.2.1, .ref y1.2.2.2.2.2.1]) k_Rd_newWatch rfl rfl ?_
    cases hy2 : sp_Rd_newExit  2 (y1.2.1, y1.2.2.1, y1.2.2.2.1, (eset y1.2.2.2.2.1 y1.2.2.2.2.2.1 (.inr (2, gx_def gx_kd2))), (y1.2.2.2.2.2.1 + 1), (y1.2.2.2.2.2.2 + 6)) with
    | none =>
      rw [hy2] at hp
      cases hp
    | some y2 =>
      rw [hy2] at hp
      try dsimp only at hp
      refine ck_isB (M' := m_Rd_newExit) (As := [.int 2]) k_Rd_newWatch rfl rfl rfl rfl rfl rfl (Nat.le_of_ble_eq_true rfl) (c_sp_Rd_newExit  hy2) (fun hby2 => ?_)
      cases hy3 : sp_Rd_nothing   y2.2 with
      | none =>
        rw [hy3] at hp
        cases hp
      | some y3 =>
        rw [hy3] at hp
        try dsimp only at hp
        refine ck_isB (M' := m_Rd_nothing) (As := []) k_Rd_newWatch rfl rfl rfl rfl rfl rfl (by cases y2.1 <;> exact (Nat.le_of_ble_eq_true rfl)) (c_sp_Rd_nothing  hy3) (fun hby3 => ?_)
        cases hy4 : sp_Rd_chain  y2.1 y3.1 y3.2 with
        | none =>
          rw [hy4] at hp
          cases hp
        | some y4 =>
          rw [hy4] at hp
          try dsimp only at hp
          refine ck_isB (M' := m_Rd_chain) (As := [va_rf y2.1, va_rf y3.1]) k_Rd_newWatch rfl rfl rfl rfl rfl rfl (Nat.le_of_ble_eq_true rfl) (c_sp_Rd_chain  hy4) (fun hby4 => ?_)
          cases hy5 : sp_Node_init  y1.2.2.2.2.2.1 3 v1 y4.1 y4.2 with
          | none =>
            rw [hy5] at hp
            cases hp
          | some y5 =>
            rw [hy5] at hp
            try dsimp only at hp
            refine ck_inV (M' := m_Node_init) (As := [.int 3, .int v1, va_rf y4.1]) k_Rd_newWatch rfl rfl rfl rfl rfl rfl (Nat.le_of_ble_eq_true rfl) (c_sp_Node_init  hy5) ?_
            refine ck_p (L' := [some (.ref a), some (.int v1), some (.int v2), some (va_rf y1.1), some (.ref y1.2.2.2.2.2.1)]) (st' := []) k_Rd_newWatch rfl (by cases y1.1 <;> rfl) ?_
            refine ck_nw k_Rd_newWatch rfl rfl rfl rfl rfl rfl ?_
            refine ck_p (L' := [some (.ref a), some (.int v1), some (.int v2), some (va_rf y1.1), some (.ref y1.2.2.2.2.2.1)]) (st' := [.ref y5.2.2.2.2.1, .ref y5.2.2.2.2.1]) k_Rd_newWatch rfl rfl ?_
            refine ck_p (L' := [some (.ref a), some (.int v1), some (.int v2), some (va_rf y1.1), some (.ref y1.2.2.2.2.2.1)]) (st' := [.int 4, .ref y5.2.2.2.2.1, .ref y5.2.2.2.2.1]) k_Rd_newWatch rfl rfl ?_
            refine ck_p (L' := [some (.ref a), some (.int v1), some (.int v2), some (va_rf y1.1), some (.ref y1.2.2.2.2.2.1)]) (st' := [.int 0, .int 4, .ref y5.2.2.2.2.1, .ref y5.2.2.2.2.1]) k_Rd_newWatch rfl rfl ?_
            refine ck_nw k_Rd_newWatch rfl rfl rfl rfl rfl rfl ?_
            refine ck_p (L' := [some (.ref a), some (.int v1), some (.int v2), some (va_rf y1.1), some (.ref y1.2.2.2.2.2.1)]) (st' := [.ref (y5.2.2.2.2.1 + 1), .ref (y5.2.2.2.2.1 + 1), .int 0, .int 4, .ref y5.2.2.2.2.1, .ref y5.2.2.2.2.1]) k_Rd_newWatch rfl rfl ?_
            refine ck_p (L' := [some (.ref a), some (.int v1), some (.int v2), some (va_rf y1.1), some (.ref y1.2.2.2.2.2.1)]) (st' := [.int 9, .ref (y5.2.2.2.2.1 + 1), .ref (y5.2.2.2.2.1 + 1), .int 0, .int 4, .ref y5.2.2.2.2.1, .ref y5.2.2.2.2.1]) k_Rd_newWatch rfl rfl ?_
            refine ck_p (L' := [some (.ref a), some (.int v1), some (.int v2), some (va_rf y1.1), some (.ref y1.2.2.2.2.2.1)]) (st' := [.int 0, .int 9, .ref (y5.2.2.2.2.1 + 1), .ref (y5.2.2.2.2.1 + 1), .int 0, .int 4, .ref y5.2.2.2.2.1, .ref y5.2.2.2.2.1]) k_Rd_newWatch rfl rfl ?_
            refine ck_p (L' := [some (.ref a), some (.int v1), some (.int v2), some (va_rf y1.1), some (.ref y1.2.2.2.2.2.1)]) (st' := [va_rf y1.1, .int 0, .int 9, .ref (y5.2.2.2.2.1 + 1), .ref (y5.2.2.2.2.1 + 1), .int 0, .int 4, .ref y5.2.2.2.2.1, .ref y5.2.2.2.2.1]) k_Rd_newWatch rfl (by cases y1.1 <;> rfl) ?_
            refine ck_p (L' := [some (.ref a), some (.int v1), some (.int v2), some (va_rf y1.1), some (.ref y1.2.2.2.2.2.1)]) (st' := [.ref y1.2.2.2.2.2.1, va_rf y1.1, .int 0, .int 9, .ref (y5.2.2.2.2.1 + 1), .ref (y5.2.2.2.2.1 + 1), .int 0, .int 4, .ref y5.2.2.2.2.1, .ref y5.2.2.2.2.1]) k_Rd_newWatch rfl rfl ?_
            cases hy6 : sp_Rd_chain  y1.1 (some y1.2.2.2.2.2.1) (y5.1, y5.2.1, y5.2.2.1, (eset (eset y5.2.2.2.1 y5.2.2.2.2.1 (.inr (2, gx_def gx_kd2))) (y5.2.2.2.2.1 + 1) (.inr (2, gx_def gx_kd2))), ((y5.2.2.2.2.1 + 1) + 1), ((y5.2.2.2.2.2 + 6) + 6)) with
            | none =>
              rw [hy6] at hp
              cases hp
            | some y6 =>
              rw [hy6] at hp
              try dsimp only at hp
              refine ck_isB (M' := m_Rd_chain) (As := [va_rf y1.1, .ref y1.2.2.2.2.2.1]) k_Rd_newWatch rfl rfl rfl rfl rfl rfl (Nat.le_of_ble_eq_true rfl) (c_sp_Rd_chain  hy6) (fun hby6 => ?_)
              cases hy7 : sp_Node_init  (y5.2.2.2.2.1 + 1) 9 0 y6.1 y6.2 with
              | none =>
                rw [hy7] at hp
                cases hp
              | some y7 =>
                rw [hy7] at hp
                try dsimp only at hp
                refine ck_inV (M' := m_Node_init) (As := [.int 9, .int 0, va_rf y6.1]) k_Rd_newWatch rfl rfl rfl rfl rfl rfl (Nat.le_of_ble_eq_true rfl) (c_sp_Node_init  hy7) ?_
                cases hy8 : sp_Node_init  y5.2.2.2.2.1 4 0 (some (y5.2.2.2.2.1 + 1)) y7 with
                | none =>
                  rw [hy8] at hp
                  cases hp
                | some y8 =>
                  rw [hy8] at hp
                  try dsimp only at hp
                  refine ck_inV (M' := m_Node_init) (As := [.int 4, .int 0, .ref (y5.2.2.2.2.1 + 1)]) k_Rd_newWatch rfl rfl rfl rfl rfl rfl (Nat.le_of_ble_eq_true rfl) (c_sp_Node_init  hy8) ?_
                  cases hp
                  exact ck_ret (v := some (va_rf (some y5.2.2.2.2.1))) k_Rd_newWatch rfl rfl trivial rfl ⟨rfl, rfl⟩
def sp_Rd_newSustain  (v1 : Int32) (v2 : Int32) (σ : ck_S) : Option (Option Nat × ck_S) := (match sp_Rd_newEmit  v1 (σ.1, σ.2.1, σ.2.2.1, (eset σ.2.2.2.1 σ.2.2.2.2.1 (.inr (2, gx_def gx_kd2))), (σ.2.2.2.2.1 + 1), (σ.2.2.2.2.2 + 6)) with
  | none => none
  | some y1 => (match sp_Rd_newPause  v2 y1.2 with
  | none => none
  | some y2 => (match sp_Rd_chain  y1.1 y2.1 y2.2 with
  | none => none
  | some y3 => (match sp_Node_init  σ.2.2.2.2.1 9 0 y3.1 y3.2 with
  | none => none
  | some y4 => (match sp_Node_init  y4.2.2.2.2.1 4 0 (some σ.2.2.2.2.1) (y4.1, y4.2.1, y4.2.2.1, (eset y4.2.2.2.1 y4.2.2.2.2.1 (.inr (2, gx_def gx_kd2))), (y4.2.2.2.2.1 + 1), (y4.2.2.2.2.2 + 6)) with
  | none => none
  | some y5 => some ((some y4.2.2.2.2.1), y5))))))
theorem c_sp_Rd_newSustain  {v1 : Int32} {v2 : Int32} {σ : ck_S} {r : Option Nat × ck_S} (hp : sp_Rd_newSustain  v1 v2 σ = some r) : ck_Has l F (d + 4) m_Rd_newSustain rd_K a A [.ref a, .int v1, .int v2] σ (fun w σ' => w = some (va_rf r.1) ∧ σ' = r.2) := by
  refine ck_meth (k := 1) (L := [some (.ref a), some (.int v1), some (.int v2), none]) pn_Rd rfl (Nat.le_of_ble_eq_true rfl) ?_
  unfold sp_Rd_newSustain at hp
  refine ck_nw k_Rd_newSustain rfl rfl rfl rfl rfl rfl ?_
  refine ck_p (L' := [some (.ref a), some (.int v1), some (.int v2), none]) (st' := [.ref σ.2.2.2.2.1, .ref σ.2.2.2.2.1]) k_Rd_newSustain rfl rfl ?_
  refine ck_p (L' := [some (.ref a), some (.int v1), some (.int v2), none]) (st' := [.int 9, .ref σ.2.2.2.2.1, .ref σ.2.2.2.2.1]) k_Rd_newSustain rfl rfl ?_
  refine ck_p (L' := [some (.ref a), some (.int v1), some (.int v2), none]) (st' := [.int 0, .int 9, .ref σ.2.2.2.2.1, .ref σ.2.2.2.2.1]) k_Rd_newSustain rfl rfl ?_
  refine ck_p (L' := [some (.ref a), some (.int v1), some (.int v2), none]) (st' := [.int v1, .int 0, .int 9, .ref σ.2.2.2.2.1, .ref σ.2.2.2.2.1]) k_Rd_newSustain rfl rfl ?_
  cases hy1 : sp_Rd_newEmit  v1 (σ.1, σ.2.1, σ.2.2.1, (eset σ.2.2.2.1 σ.2.2.2.2.1 (.inr (2, gx_def gx_kd2))), (σ.2.2.2.2.1 + 1), (σ.2.2.2.2.2 + 6)) with
  | none =>
    rw [hy1] at hp
    cases hp
  | some y1 =>
    rw [hy1] at hp
    try dsimp only at hp
    refine ck_isB (M' := m_Rd_newEmit) (As := [.int v1]) k_Rd_newSustain rfl rfl rfl rfl rfl rfl (Nat.le_of_ble_eq_true rfl) (c_sp_Rd_newEmit  hy1) (fun hby1 => ?_)
    refine ck_p (L' := [some (.ref a), some (.int v1), some (.int v2), none]) (st' := [.ref a, va_rf y1.1, .int 0, .int 9, .ref σ.2.2.2.2.1, .ref σ.2.2.2.2.1]) k_Rd_newSustain rfl rfl ?_
    refine ck_p (L' := [some (.ref a), some (.int v1), some (.int v2), none]) (st' := [.int v2, .ref a, va_rf y1.1, .int 0, .int 9, .ref σ.2.2.2.2.1, .ref σ.2.2.2.2.1]) k_Rd_newSustain rfl rfl ?_
    cases hy2 : sp_Rd_newPause  v2 y1.2 with
    | none =>
      rw [hy2] at hp
      cases hp
    | some y2 =>
      rw [hy2] at hp
      try dsimp only at hp
      refine ck_ivB (M' := m_Rd_newPause) (As := [.int v2]) k_Rd_newSustain rfl rfl rfl rfl rfl rfl rfl (by cases y1.1 <;> exact (Nat.le_of_ble_eq_true rfl)) (c_sp_Rd_newPause  hy2) (fun hby2 => ?_)
      cases hy3 : sp_Rd_chain  y1.1 y2.1 y2.2 with
      | none =>
        rw [hy3] at hp
        cases hp
      | some y3 =>
        rw [hy3] at hp
        try dsimp only at hp
        refine ck_isB (M' := m_Rd_chain) (As := [va_rf y1.1, va_rf y2.1]) k_Rd_newSustain rfl rfl rfl rfl rfl rfl (Nat.le_of_ble_eq_true rfl) (c_sp_Rd_chain  hy3) (fun hby3 => ?_)
        cases hy4 : sp_Node_init  σ.2.2.2.2.1 9 0 y3.1 y3.2 with
        | none =>
          rw [hy4] at hp
          cases hp
        | some y4 =>
          rw [hy4] at hp
          try dsimp only at hp
          refine ck_inV (M' := m_Node_init) (As := [.int 9, .int 0, va_rf y3.1]) k_Rd_newSustain rfl rfl rfl rfl rfl rfl (Nat.le_of_ble_eq_true rfl) (c_sp_Node_init  hy4) ?_
          refine ck_p (L' := [some (.ref a), some (.int v1), some (.int v2), some (.ref σ.2.2.2.2.1)]) (st' := []) k_Rd_newSustain rfl rfl ?_
          refine ck_nw k_Rd_newSustain rfl rfl rfl rfl rfl rfl ?_
          refine ck_p (L' := [some (.ref a), some (.int v1), some (.int v2), some (.ref σ.2.2.2.2.1)]) (st' := [.ref y4.2.2.2.2.1, .ref y4.2.2.2.2.1]) k_Rd_newSustain rfl rfl ?_
          refine ck_p (L' := [some (.ref a), some (.int v1), some (.int v2), some (.ref σ.2.2.2.2.1)]) (st' := [.int 4, .ref y4.2.2.2.2.1, .ref y4.2.2.2.2.1]) k_Rd_newSustain rfl rfl ?_
          refine ck_p (L' := [some (.ref a), some (.int v1), some (.int v2), some (.ref σ.2.2.2.2.1)]) (st' := [.int 0, .int 4, .ref y4.2.2.2.2.1, .ref y4.2.2.2.2.1]) k_Rd_newSustain rfl rfl ?_
          refine ck_p (L' := [some (.ref a), some (.int v1), some (.int v2), some (.ref σ.2.2.2.2.1)]) (st' := [.ref σ.2.2.2.2.1, .int 0, .int 4, .ref y4.2.2.2.2.1, .ref y4.2.2.2.2.1]) k_Rd_newSustain rfl rfl ?_
          cases hy5 : sp_Node_init  y4.2.2.2.2.1 4 0 (some σ.2.2.2.2.1) (y4.1, y4.2.1, y4.2.2.1, (eset y4.2.2.2.1 y4.2.2.2.2.1 (.inr (2, gx_def gx_kd2))), (y4.2.2.2.2.1 + 1), (y4.2.2.2.2.2 + 6)) with
          | none =>
            rw [hy5] at hp
            cases hp
          | some y5 =>
            rw [hy5] at hp
            try dsimp only at hp
            refine ck_inV (M' := m_Node_init) (As := [.int 4, .int 0, .ref σ.2.2.2.2.1]) k_Rd_newSustain rfl rfl rfl rfl rfl rfl (Nat.le_of_ble_eq_true rfl) (c_sp_Node_init  hy5) ?_
            cases hp
            exact ck_ret (v := some (va_rf (some y4.2.2.2.2.1))) k_Rd_newSustain rfl rfl trivial rfl ⟨rfl, rfl⟩
def sp_Rd_readNoUnit   (σ : ck_S) : Option (Option Nat × ck_S) := (match sp_Rd_refuse   σ with
  | none => none
  | some y1 => (match sp_Rd_nothing   y1 with
  | none => none
  | some y2 => some (y2.1, y2.2)))
theorem c_sp_Rd_readNoUnit   {σ : ck_S} {r : Option Nat × ck_S} (hp : sp_Rd_readNoUnit   σ = some r) : ck_Has l F (d + 4) m_Rd_readNoUnit rd_K a A [.ref a] σ (fun w σ' => w = some (va_rf r.1) ∧ σ' = r.2) := by
  refine ck_meth (k := 0) (L := [some (.ref a)]) pn_Rd rfl (Nat.le_of_ble_eq_true rfl) ?_
  unfold sp_Rd_readNoUnit at hp
  refine ck_p (L' := [some (.ref a)]) (st' := [.ref a]) k_Rd_readNoUnit rfl rfl ?_
  cases hy1 : sp_Rd_refuse   σ with
  | none =>
    rw [hy1] at hp
    cases hp
  | some y1 =>
    rw [hy1] at hp
    try dsimp only at hp
    refine ck_ivV (M' := m_Rd_refuse) (As := []) k_Rd_readNoUnit rfl rfl rfl rfl rfl rfl rfl (Nat.le_of_ble_eq_true rfl) (c_sp_Rd_refuse  hy1) ?_
    cases hy2 : sp_Rd_nothing   y1 with
    | none =>
      rw [hy2] at hp
      cases hp
    | some y2 =>
      rw [hy2] at hp
      try dsimp only at hp
      refine ck_isB (M' := m_Rd_nothing) (As := []) k_Rd_readNoUnit rfl rfl rfl rfl rfl rfl (Nat.le_of_ble_eq_true rfl) (c_sp_Rd_nothing  hy2) (fun hby2 => ?_)
      cases hp
      exact ck_ret (v := some (va_rf y2.1)) k_Rd_readNoUnit rfl rfl (by cases y2.1 <;> exact trivial) rfl ⟨rfl, rfl⟩
def sp_Rd_readExit_29   : Nat → Int32 → Int32 → Int32 → ck_S → Option (Option Nat × ck_S)
  | 0, _, _, _, _ => none
  | m + 1, v1, v2, v3, σ => (if v3 < 0 then (match sp_Rd_note  2 v1 σ with
  | none => none
  | some y3 => (match sp_Rd_newExit  2 y3 with
  | none => none
  | some y4 => some (y4.1, y4.2))) else (if gi v3 13 = true then (if ((σ.2.1 4) v3.toNatClampNeg) = v2 then (match sp_Rd_newExit  (((2 + (σ.1 14)) - 1) - v3) σ with
  | none => none
  | some y7 => some (y7.1, y7.2)) else sp_Rd_readExit_29    m v1 v2 (v3 + (-1)) σ) else none))
theorem c_sp_Rd_readExit_29  {r : Option Nat × ck_S} : ∀ (m : Nat) (v1 : Int32) (v2 : Int32) (v3 : Int32) (σ : ck_S), sp_Rd_readExit_29   m v1 v2 v3 σ = some r → ck_Go l F (d + 4) m_Rd_readExit rd_K a A 29 ([some (.ref a), some (.int v1), some (.int v2), some (.int v3)]) [] σ (fun w σ' => w = some (va_rf r.1) ∧ σ' = r.2) := by
  intro m
  induction m with
  | zero => intro v1 v2 v3 σ hp; cases hp
  | succ m ihm =>
    intro v1 v2 v3 σ hp
    unfold sp_Rd_readExit_29 at hp
    refine ck_p (L' := [some (.ref a), some (.int v1), some (.int v2), some (.int v3)]) (st' := [.int v3]) k_Rd_readExit rfl rfl ?_
    refine ck_if k_Rd_readExit rfl rfl rfl (fun h2 => ?_) (fun h2 => ?_)
    · skip
      rw [if_pos (show v3 < 0 from h2)] at hp
      refine ck_p (L' := [some (.ref a), some (.int v1), some (.int v2), some (.int v3)]) (st' := [.ref a]) k_Rd_readExit rfl rfl ?_
      refine ck_p (L' := [some (.ref a), some (.int v1), some (.int v2), some (.int v3)]) (st' := [.int 2, .ref a]) k_Rd_readExit rfl rfl ?_
      refine ck_p (L' := [some (.ref a), some (.int v1), some (.int v2), some (.int v3)]) (st' := [.int v1, .int 2, .ref a]) k_Rd_readExit rfl rfl ?_
      cases hy3 : sp_Rd_note  2 v1 σ with
      | none =>
        rw [hy3] at hp
        cases hp
      | some y3 =>
        rw [hy3] at hp
        try dsimp only at hp
        refine ck_ivV (M' := m_Rd_note) (As := [.int 2, .int v1]) k_Rd_readExit rfl rfl rfl rfl rfl rfl rfl (Nat.le_of_ble_eq_true rfl) (c_sp_Rd_note  hy3) ?_
        refine ck_p (L' := [some (.ref a), some (.int v1), some (.int v2), some (.int v3)]) (st' := [.int 2]) k_Rd_readExit rfl rfl ?_
        cases hy4 : sp_Rd_newExit  2 y3 with
        | none =>
          rw [hy4] at hp
          cases hp
        | some y4 =>
          rw [hy4] at hp
          try dsimp only at hp
          refine ck_isB (M' := m_Rd_newExit) (As := [.int 2]) k_Rd_readExit rfl rfl rfl rfl rfl rfl (Nat.le_of_ble_eq_true rfl) (c_sp_Rd_newExit  hy4) (fun hby4 => ?_)
          cases hp
          exact ck_ret (v := some (va_rf y4.1)) k_Rd_readExit rfl rfl (by cases y4.1 <;> exact trivial) rfl ⟨rfl, rfl⟩
    · skip
      rw [if_neg (show ¬ (v3 < 0) from h2)] at hp
      refine ck_p (L' := [some (.ref a), some (.int v1), some (.int v2), some (.int v3)]) (st' := [.ref a]) k_Rd_readExit rfl rfl ?_
      refine ck_g k_Rd_readExit rfl rfl rfl rfl ?_
      refine ck_p (L' := [some (.ref a), some (.int v1), some (.int v2), some (.int v3)]) (st' := [.int v3, .ref (A 4)]) k_Rd_readExit rfl rfl ?_
      by_cases g5 : gi v3 13 = true
      · rw [if_pos g5] at hp
        refine ck_ld k_Rd_readExit rfl rfl rfl (gi_in g5) (by decide) ?_
        refine ck_p (L' := [some (.ref a), some (.int v1), some (.int v2), some (.int v3)]) (st' := [.int v2, .int ((σ.2.1 4) v3.toNatClampNeg)]) k_Rd_readExit rfl rfl ?_
        refine ck_ic k_Rd_readExit rfl rfl rfl (fun h6 => ?_) (fun h6 => ?_)
        · skip
          rw [if_neg (show ¬ (((σ.2.1 4) v3.toNatClampNeg) = v2) from h6)] at hp
          refine ck_p (L' := [some (.ref a), some (.int v1), some (.int v2), some (.int (v3 + (-1)))]) (st' := []) k_Rd_readExit rfl rfl ?_
          refine ck_j k_Rd_readExit rfl rfl ?_
          exact ihm _ _ _ _ hp
        · skip
          rw [if_pos (show ((σ.2.1 4) v3.toNatClampNeg) = v2 from h6)] at hp
          refine ck_p (L' := [some (.ref a), some (.int v1), some (.int v2), some (.int v3)]) (st' := [.int 2]) k_Rd_readExit rfl rfl ?_
          refine ck_p (L' := [some (.ref a), some (.int v1), some (.int v2), some (.int v3)]) (st' := [.ref a, .int 2]) k_Rd_readExit rfl rfl ?_
          refine ck_g k_Rd_readExit rfl rfl rfl rfl ?_
          refine ck_p (L' := [some (.ref a), some (.int v1), some (.int v2), some (.int v3)]) (st' := [.int (2 + (σ.1 14))]) k_Rd_readExit rfl rfl ?_
          refine ck_p (L' := [some (.ref a), some (.int v1), some (.int v2), some (.int v3)]) (st' := [.int 1, .int (2 + (σ.1 14))]) k_Rd_readExit rfl rfl ?_
          refine ck_p (L' := [some (.ref a), some (.int v1), some (.int v2), some (.int v3)]) (st' := [.int ((2 + (σ.1 14)) - 1)]) k_Rd_readExit rfl rfl ?_
          refine ck_p (L' := [some (.ref a), some (.int v1), some (.int v2), some (.int v3)]) (st' := [.int v3, .int ((2 + (σ.1 14)) - 1)]) k_Rd_readExit rfl rfl ?_
          refine ck_p (L' := [some (.ref a), some (.int v1), some (.int v2), some (.int v3)]) (st' := [.int (((2 + (σ.1 14)) - 1) - v3)]) k_Rd_readExit rfl rfl ?_
          cases hy7 : sp_Rd_newExit  (((2 + (σ.1 14)) - 1) - v3) σ with
          | none =>
            rw [hy7] at hp
            cases hp
          | some y7 =>
            rw [hy7] at hp
            try dsimp only at hp
            refine ck_isB (M' := m_Rd_newExit) (As := [.int (((2 + (σ.1 14)) - 1) - v3)]) k_Rd_readExit rfl rfl rfl rfl rfl rfl (Nat.le_of_ble_eq_true rfl) (c_sp_Rd_newExit  hy7) (fun hby7 => ?_)
            cases hp
            exact ck_ret (v := some (va_rf y7.1)) k_Rd_readExit rfl rfl (by cases y7.1 <;> exact trivial) rfl ⟨rfl, rfl⟩
      · rw [if_neg g5] at hp
        cases hp
def sp_Rd_readExit   (σ : ck_S) : Option (Option Nat × ck_S) := (match sp_Rd_takeBetween  65 90 σ with
  | none => none
  | some y1 => sp_Rd_readExit_29   2601 (σ.1 8) y1.1 ((q_min (y1.2.1 14) 13) - 1) y1.2)
theorem c_sp_Rd_readExit   {σ : ck_S} {r : Option Nat × ck_S} (hp : sp_Rd_readExit   σ = some r) : ck_Has l F (d + 4) m_Rd_readExit rd_K a A [.ref a] σ (fun w σ' => w = some (va_rf r.1) ∧ σ' = r.2) := by
  refine ck_meth (k := 3) (L := [some (.ref a), none, none, none]) pn_Rd rfl (Nat.le_of_ble_eq_true rfl) ?_
  unfold sp_Rd_readExit at hp
  refine ck_p (L' := [some (.ref a), none, none, none]) (st' := [.ref a]) k_Rd_readExit rfl rfl ?_
  refine ck_g k_Rd_readExit rfl rfl rfl rfl ?_
  refine ck_p (L' := [some (.ref a), some (.int (σ.1 8)), none, none]) (st' := []) k_Rd_readExit rfl rfl ?_
  refine ck_p (L' := [some (.ref a), some (.int (σ.1 8)), none, none]) (st' := [.ref a]) k_Rd_readExit rfl rfl ?_
  refine ck_p (L' := [some (.ref a), some (.int (σ.1 8)), none, none]) (st' := [.int 65, .ref a]) k_Rd_readExit rfl rfl ?_
  refine ck_p (L' := [some (.ref a), some (.int (σ.1 8)), none, none]) (st' := [.int 90, .int 65, .ref a]) k_Rd_readExit rfl rfl ?_
  cases hy1 : sp_Rd_takeBetween  65 90 σ with
  | none =>
    rw [hy1] at hp
    cases hp
  | some y1 =>
    rw [hy1] at hp
    try dsimp only at hp
    refine ck_ivB (M' := m_Rd_takeBetween) (As := [.int 65, .int 90]) k_Rd_readExit rfl rfl rfl rfl rfl rfl rfl (Nat.le_of_ble_eq_true rfl) (c_sp_Rd_takeBetween  hy1) (fun hby1 => ?_)
    refine ck_p (L' := [some (.ref a), some (.int (σ.1 8)), some (.int y1.1), none]) (st' := []) k_Rd_readExit rfl rfl ?_
    refine ck_p (L' := [some (.ref a), some (.int (σ.1 8)), some (.int y1.1), none]) (st' := [.ref a]) k_Rd_readExit rfl rfl ?_
    refine ck_g k_Rd_readExit rfl rfl rfl rfl ?_
    refine ck_p (L' := [some (.ref a), some (.int (σ.1 8)), some (.int y1.1), none]) (st' := [.ref a, .int (y1.2.1 14)]) k_Rd_readExit rfl rfl ?_
    refine ck_g k_Rd_readExit rfl rfl rfl rfl ?_
    refine ck_ln k_Rd_readExit rfl rfl rfl (by decide) ?_
    refine ck_mn k_Rd_readExit rfl rfl rfl (Nat.le_of_ble_eq_true rfl) ?_
    refine ck_p (L' := [some (.ref a), some (.int (σ.1 8)), some (.int y1.1), none]) (st' := [.int 1, .int (q_min (y1.2.1 14) 13)]) k_Rd_readExit rfl rfl ?_
    refine ck_p (L' := [some (.ref a), some (.int (σ.1 8)), some (.int y1.1), none]) (st' := [.int ((q_min (y1.2.1 14) 13) - 1)]) k_Rd_readExit rfl rfl ?_
    refine ck_p (L' := [some (.ref a), some (.int (σ.1 8)), some (.int y1.1), some (.int ((q_min (y1.2.1 14) 13) - 1))]) (st' := []) k_Rd_readExit rfl rfl ?_
    exact c_sp_Rd_readExit_29   _ _ _ _ _ hp
def rb_IH (l : Launch) (F : gx_F) (a : Nat) (A : Nat → Nat) (D : Nat) (f : ck_S → Option (Option Nat × ck_S)) : Prop := ∀ (dd : Nat) (σ : ck_S) (r : Option Nat × ck_S), D ≤ dd → f σ = some r → ck_Has l F dd m_Rd_readBeside rd_K a A [.ref a] σ (fun w σ' => w = some (va_rf r.1) ∧ σ' = r.2)
variable {D : Nat} {f : ck_S → Option (Option Nat × ck_S)}
def sp_Rd_readBody (f : ck_S → Option (Option Nat × ck_S))  (σ : ck_S) : Option (Option Nat × ck_S) := (if (σ.1 13) < 12 then (match sp_Rd_expect  40 σ with
  | none => none
  | some y2 => (match f ((upd y2.1 13 ((y2.1 13) + 1)), y2.2.1, y2.2.2.1, y2.2.2.2.1, y2.2.2.2.2.1, y2.2.2.2.2.2) with
  | none => none
  | some y3 => (match sp_Rd_expect  41 ((upd y3.2.1 13 ((y3.2.1 13) - 1)), y3.2.2.1, y3.2.2.2.1, y3.2.2.2.2.1, y3.2.2.2.2.2.1, y3.2.2.2.2.2.2) with
  | none => none
  | some y4 => some (y3.1, y4)))) else (match sp_Rd_refuse   σ with
  | none => none
  | some y5 => (match sp_Rd_expect  40 y5 with
  | none => none
  | some y6 => (match f ((upd y6.1 13 ((y6.1 13) + 1)), y6.2.1, y6.2.2.1, y6.2.2.2.1, y6.2.2.2.2.1, y6.2.2.2.2.2) with
  | none => none
  | some y7 => (match sp_Rd_expect  41 ((upd y7.2.1 13 ((y7.2.1 13) - 1)), y7.2.2.1, y7.2.2.2.1, y7.2.2.2.2.1, y7.2.2.2.2.2.1, y7.2.2.2.2.2.2) with
  | none => none
  | some y8 => some (y7.1, y8))))))
theorem c_sp_Rd_readBody (hf : rb_IH l F a A D f) (hD : D ≤ d)  {σ : ck_S} {r : Option Nat × ck_S} (hp : sp_Rd_readBody f  σ = some r) : ck_Has l F (d + 2) m_Rd_readBody rd_K a A [.ref a] σ (fun w σ' => w = some (va_rf r.1) ∧ σ' = r.2) := by
  refine ck_meth (k := 1) (L := [some (.ref a), none]) pn_Rd rfl (Nat.le_of_ble_eq_true rfl) ?_
  unfold sp_Rd_readBody at hp
  refine ck_p (L' := [some (.ref a), none]) (st' := [.ref a]) k_Rd_readBody rfl rfl ?_
  refine ck_g k_Rd_readBody rfl rfl rfl rfl ?_
  refine ck_p (L' := [some (.ref a), none]) (st' := [.int 12, .int (σ.1 13)]) k_Rd_readBody rfl rfl ?_
  refine ck_ic k_Rd_readBody rfl rfl rfl (fun h1 => ?_) (fun h1 => ?_)
  · skip
    rw [if_pos (show (σ.1 13) < 12 from h1)] at hp
    refine ck_p (L' := [some (.ref a), none]) (st' := [.ref a]) k_Rd_readBody rfl rfl ?_
    refine ck_p (L' := [some (.ref a), none]) (st' := [.int 40, .ref a]) k_Rd_readBody rfl rfl ?_
    cases hy2 : sp_Rd_expect  40 σ with
    | none =>
      rw [hy2] at hp
      cases hp
    | some y2 =>
      rw [hy2] at hp
      try dsimp only at hp
      refine ck_ivV (M' := m_Rd_expect) (As := [.int 40]) k_Rd_readBody rfl rfl rfl rfl rfl rfl rfl (Nat.le_of_ble_eq_true rfl) (c_sp_Rd_expect  hy2) ?_
      refine ck_p (L' := [some (.ref a), none]) (st' := [.ref a]) k_Rd_readBody rfl rfl ?_
      refine ck_p (L' := [some (.ref a), none]) (st' := [.ref a, .ref a]) k_Rd_readBody rfl rfl ?_
      refine ck_g k_Rd_readBody rfl rfl rfl rfl ?_
      refine ck_p (L' := [some (.ref a), none]) (st' := [.int 1, .int (y2.1 13), .ref a]) k_Rd_readBody rfl rfl ?_
      refine ck_p (L' := [some (.ref a), none]) (st' := [.int ((y2.1 13) + 1), .ref a]) k_Rd_readBody rfl rfl ?_
      refine ck_pt k_Rd_readBody rfl rfl rfl trivial (Nat.le_of_ble_eq_true rfl) rfl ?_
      refine ck_p (L' := [some (.ref a), none]) (st' := [.ref a]) k_Rd_readBody rfl rfl ?_
      cases hy3 : f ((upd y2.1 13 ((y2.1 13) + 1)), y2.2.1, y2.2.2.1, y2.2.2.2.1, y2.2.2.2.2.1, y2.2.2.2.2.2) with
      | none =>
        rw [hy3] at hp
        cases hp
      | some y3 =>
        rw [hy3] at hp
        try dsimp only at hp
        refine ck_ivB (M' := m_Rd_readBeside) (As := []) k_Rd_readBody rfl rfl rfl rfl rfl rfl rfl (Nat.le_of_ble_eq_true rfl) (hf _ _ _ (by omega) hy3) (fun hby3 => ?_)
        refine ck_p (L' := [some (.ref a), some (va_rf y3.1)]) (st' := []) k_Rd_readBody rfl (by cases y3.1 <;> rfl) ?_
        refine ck_p (L' := [some (.ref a), some (va_rf y3.1)]) (st' := [.ref a]) k_Rd_readBody rfl rfl ?_
        refine ck_p (L' := [some (.ref a), some (va_rf y3.1)]) (st' := [.ref a, .ref a]) k_Rd_readBody rfl rfl ?_
        refine ck_g k_Rd_readBody rfl rfl rfl rfl ?_
        refine ck_p (L' := [some (.ref a), some (va_rf y3.1)]) (st' := [.int 1, .int (y3.2.1 13), .ref a]) k_Rd_readBody rfl rfl ?_
        refine ck_p (L' := [some (.ref a), some (va_rf y3.1)]) (st' := [.int ((y3.2.1 13) - 1), .ref a]) k_Rd_readBody rfl rfl ?_
        refine ck_pt k_Rd_readBody rfl rfl rfl trivial (Nat.le_of_ble_eq_true rfl) rfl ?_
        refine ck_p (L' := [some (.ref a), some (va_rf y3.1)]) (st' := [.ref a]) k_Rd_readBody rfl rfl ?_
        refine ck_p (L' := [some (.ref a), some (va_rf y3.1)]) (st' := [.int 41, .ref a]) k_Rd_readBody rfl rfl ?_
        cases hy4 : sp_Rd_expect  41 ((upd y3.2.1 13 ((y3.2.1 13) - 1)), y3.2.2.1, y3.2.2.2.1, y3.2.2.2.2.1, y3.2.2.2.2.2.1, y3.2.2.2.2.2.2) with
        | none =>
          rw [hy4] at hp
          cases hp
        | some y4 =>
          rw [hy4] at hp
          try dsimp only at hp
          refine ck_ivV (M' := m_Rd_expect) (As := [.int 41]) k_Rd_readBody rfl rfl rfl rfl rfl rfl rfl (Nat.le_of_ble_eq_true rfl) (c_sp_Rd_expect  hy4) ?_
          refine ck_p (L' := [some (.ref a), some (va_rf y3.1)]) (st' := [va_rf y3.1]) k_Rd_readBody rfl (by cases y3.1 <;> rfl) ?_
          cases hp
          exact ck_ret (v := some (va_rf y3.1)) k_Rd_readBody rfl rfl (by cases y3.1 <;> exact trivial) rfl ⟨rfl, rfl⟩
  · skip
    rw [if_neg (show ¬ ((σ.1 13) < 12) from h1)] at hp
    refine ck_p (L' := [some (.ref a), none]) (st' := [.ref a]) k_Rd_readBody rfl rfl ?_
    cases hy5 : sp_Rd_refuse   σ with
    | none =>
      rw [hy5] at hp
      cases hp
    | some y5 =>
      rw [hy5] at hp
      try dsimp only at hp
      refine ck_ivV (M' := m_Rd_refuse) (As := []) k_Rd_readBody rfl rfl rfl rfl rfl rfl rfl (Nat.le_of_ble_eq_true rfl) (c_sp_Rd_refuse  hy5) ?_
      refine ck_p (L' := [some (.ref a), none]) (st' := [.ref a]) k_Rd_readBody rfl rfl ?_
      refine ck_p (L' := [some (.ref a), none]) (st' := [.int 40, .ref a]) k_Rd_readBody rfl rfl ?_
      cases hy6 : sp_Rd_expect  40 y5 with
      | none =>
        rw [hy6] at hp
        cases hp
      | some y6 =>
        rw [hy6] at hp
        try dsimp only at hp
        refine ck_ivV (M' := m_Rd_expect) (As := [.int 40]) k_Rd_readBody rfl rfl rfl rfl rfl rfl rfl (Nat.le_of_ble_eq_true rfl) (c_sp_Rd_expect  hy6) ?_
        refine ck_p (L' := [some (.ref a), none]) (st' := [.ref a]) k_Rd_readBody rfl rfl ?_
        refine ck_p (L' := [some (.ref a), none]) (st' := [.ref a, .ref a]) k_Rd_readBody rfl rfl ?_
        refine ck_g k_Rd_readBody rfl rfl rfl rfl ?_
        refine ck_p (L' := [some (.ref a), none]) (st' := [.int 1, .int (y6.1 13), .ref a]) k_Rd_readBody rfl rfl ?_
        refine ck_p (L' := [some (.ref a), none]) (st' := [.int ((y6.1 13) + 1), .ref a]) k_Rd_readBody rfl rfl ?_
        refine ck_pt k_Rd_readBody rfl rfl rfl trivial (Nat.le_of_ble_eq_true rfl) rfl ?_
        refine ck_p (L' := [some (.ref a), none]) (st' := [.ref a]) k_Rd_readBody rfl rfl ?_
        cases hy7 : f ((upd y6.1 13 ((y6.1 13) + 1)), y6.2.1, y6.2.2.1, y6.2.2.2.1, y6.2.2.2.2.1, y6.2.2.2.2.2) with
        | none =>
          rw [hy7] at hp
          cases hp
        | some y7 =>
          rw [hy7] at hp
          try dsimp only at hp
          refine ck_ivB (M' := m_Rd_readBeside) (As := []) k_Rd_readBody rfl rfl rfl rfl rfl rfl rfl (Nat.le_of_ble_eq_true rfl) (hf _ _ _ (by omega) hy7) (fun hby7 => ?_)
          refine ck_p (L' := [some (.ref a), some (va_rf y7.1)]) (st' := []) k_Rd_readBody rfl (by cases y7.1 <;> rfl) ?_
          refine ck_p (L' := [some (.ref a), some (va_rf y7.1)]) (st' := [.ref a]) k_Rd_readBody rfl rfl ?_
          refine ck_p (L' := [some (.ref a), some (va_rf y7.1)]) (st' := [.ref a, .ref a]) k_Rd_readBody rfl rfl ?_
          refine ck_g k_Rd_readBody rfl rfl rfl rfl ?_
          refine ck_p (L' := [some (.ref a), some (va_rf y7.1)]) (st' := [.int 1, .int (y7.2.1 13), .ref a]) k_Rd_readBody rfl rfl ?_
          refine ck_p (L' := [some (.ref a), some (va_rf y7.1)]) (st' := [.int ((y7.2.1 13) - 1), .ref a]) k_Rd_readBody rfl rfl ?_
          refine ck_pt k_Rd_readBody rfl rfl rfl trivial (Nat.le_of_ble_eq_true rfl) rfl ?_
          refine ck_p (L' := [some (.ref a), some (va_rf y7.1)]) (st' := [.ref a]) k_Rd_readBody rfl rfl ?_
          refine ck_p (L' := [some (.ref a), some (va_rf y7.1)]) (st' := [.int 41, .ref a]) k_Rd_readBody rfl rfl ?_
          cases hy8 : sp_Rd_expect  41 ((upd y7.2.1 13 ((y7.2.1 13) - 1)), y7.2.2.1, y7.2.2.2.1, y7.2.2.2.2.1, y7.2.2.2.2.2.1, y7.2.2.2.2.2.2) with
          | none =>
            rw [hy8] at hp
            cases hp
          | some y8 =>
            rw [hy8] at hp
            try dsimp only at hp
            refine ck_ivV (M' := m_Rd_expect) (As := [.int 41]) k_Rd_readBody rfl rfl rfl rfl rfl rfl rfl (Nat.le_of_ble_eq_true rfl) (c_sp_Rd_expect  hy8) ?_
            refine ck_p (L' := [some (.ref a), some (va_rf y7.1)]) (st' := [va_rf y7.1]) k_Rd_readBody rfl (by cases y7.1 <;> rfl) ?_
            cases hp
            exact ck_ret (v := some (va_rf y7.1)) k_Rd_readBody rfl rfl (by cases y7.1 <;> exact trivial) rfl ⟨rfl, rfl⟩
def sp_Rd_readAsk (f : ck_S → Option (Option Nat × ck_S))  (σ : ck_S) : Option (Option Nat × ck_S) := (match sp_Rd_readToldSignal   σ with
  | none => none
  | some y1 => (match sp_Rd_readBody f  y1.2 with
  | none => none
  | some y2 => (match sp_Rd_readBody f  y2.2 with
  | none => none
  | some y3 => (match sp_Rd_chain  y2.1 y3.1 (y3.2.1, y3.2.2.1, y3.2.2.2.1, (eset y3.2.2.2.2.1 y3.2.2.2.2.2.1 (.inr (2, gx_def gx_kd2))), (y3.2.2.2.2.2.1 + 1), (y3.2.2.2.2.2.2 + 6)) with
  | none => none
  | some y4 => (match sp_Node_init  y3.2.2.2.2.2.1 3 y1.1 y4.1 y4.2 with
  | none => none
  | some y5 => some ((some y3.2.2.2.2.2.1), y5))))))
theorem c_sp_Rd_readAsk (hf : rb_IH l F a A D f) (hD : D ≤ d)  {σ : ck_S} {r : Option Nat × ck_S} (hp : sp_Rd_readAsk f  σ = some r) : ck_Has l F (d + 3) m_Rd_readAsk rd_K a A [.ref a] σ (fun w σ' => w = some (va_rf r.1) ∧ σ' = r.2) := by
  refine ck_meth (k := 3) (L := [some (.ref a), none, none, none]) pn_Rd rfl (Nat.le_of_ble_eq_true rfl) ?_
  unfold sp_Rd_readAsk at hp
  refine ck_p (L' := [some (.ref a), none, none, none]) (st' := [.ref a]) k_Rd_readAsk rfl rfl ?_
  cases hy1 : sp_Rd_readToldSignal   σ with
  | none =>
    rw [hy1] at hp
    cases hp
  | some y1 =>
    rw [hy1] at hp
    try dsimp only at hp
    refine ck_ivB (M' := m_Rd_readToldSignal) (As := []) k_Rd_readAsk rfl rfl rfl rfl rfl rfl rfl (Nat.le_of_ble_eq_true rfl) (c_sp_Rd_readToldSignal  hy1) (fun hby1 => ?_)
    refine ck_p (L' := [some (.ref a), some (.int y1.1), none, none]) (st' := []) k_Rd_readAsk rfl rfl ?_
    refine ck_p (L' := [some (.ref a), some (.int y1.1), none, none]) (st' := [.ref a]) k_Rd_readAsk rfl rfl ?_
    cases hy2 : sp_Rd_readBody f  y1.2 with
    | none =>
      rw [hy2] at hp
      cases hp
    | some y2 =>
      rw [hy2] at hp
      try dsimp only at hp
      refine ck_ivB (M' := m_Rd_readBody) (As := []) k_Rd_readAsk rfl rfl rfl rfl rfl rfl rfl (Nat.le_of_ble_eq_true rfl) (c_sp_Rd_readBody hf (by omega) hy2) (fun hby2 => ?_)
      refine ck_p (L' := [some (.ref a), some (.int y1.1), some (va_rf y2.1), none]) (st' := []) k_Rd_readAsk rfl (by cases y2.1 <;> rfl) ?_
      refine ck_p (L' := [some (.ref a), some (.int y1.1), some (va_rf y2.1), none]) (st' := [.ref a]) k_Rd_readAsk rfl rfl ?_
      cases hy3 : sp_Rd_readBody f  y2.2 with
      | none =>
        rw [hy3] at hp
        cases hp
      | some y3 =>
        rw [hy3] at hp
        try dsimp only at hp
        refine ck_ivB (M' := m_Rd_readBody) (As := []) k_Rd_readAsk rfl rfl rfl rfl rfl rfl rfl (Nat.le_of_ble_eq_true rfl) (c_sp_Rd_readBody hf (by omega) hy3) (fun hby3 => ?_)
        refine ck_p (L' := [some (.ref a), some (.int y1.1), some (va_rf y2.1), some (va_rf y3.1)]) (st' := []) k_Rd_readAsk rfl (by cases y2.1 <;> cases y3.1 <;> rfl) ?_
        refine ck_nw k_Rd_readAsk rfl rfl rfl rfl rfl rfl ?_
        refine ck_p (L' := [some (.ref a), some (.int y1.1), some (va_rf y2.1), some (va_rf y3.1)]) (st' := [.ref y3.2.2.2.2.2.1, .ref y3.2.2.2.2.2.1]) k_Rd_readAsk rfl rfl ?_
        refine ck_p (L' := [some (.ref a), some (.int y1.1), some (va_rf y2.1), some (va_rf y3.1)]) (st' := [.int 3, .ref y3.2.2.2.2.2.1, .ref y3.2.2.2.2.2.1]) k_Rd_readAsk rfl rfl ?_
        refine ck_p (L' := [some (.ref a), some (.int y1.1), some (va_rf y2.1), some (va_rf y3.1)]) (st' := [.int y1.1, .int 3, .ref y3.2.2.2.2.2.1, .ref y3.2.2.2.2.2.1]) k_Rd_readAsk rfl rfl ?_
        refine ck_p (L' := [some (.ref a), some (.int y1.1), some (va_rf y2.1), some (va_rf y3.1)]) (st' := [va_rf y2.1, .int y1.1, .int 3, .ref y3.2.2.2.2.2.1, .ref y3.2.2.2.2.2.1]) k_Rd_readAsk rfl (by cases y2.1 <;> rfl) ?_
        refine ck_p (L' := [some (.ref a), some (.int y1.1), some (va_rf y2.1), some (va_rf y3.1)]) (st' := [va_rf y3.1, va_rf y2.1, .int y1.1, .int 3, .ref y3.2.2.2.2.2.1, .ref y3.2.2.2.2.2.1]) k_Rd_readAsk rfl (by cases y3.1 <;> rfl) ?_
        cases hy4 : sp_Rd_chain  y2.1 y3.1 (y3.2.1, y3.2.2.1, y3.2.2.2.1, (eset y3.2.2.2.2.1 y3.2.2.2.2.2.1 (.inr (2, gx_def gx_kd2))), (y3.2.2.2.2.2.1 + 1), (y3.2.2.2.2.2.2 + 6)) with
        | none =>
          rw [hy4] at hp
          cases hp
        | some y4 =>
          rw [hy4] at hp
          try dsimp only at hp
          refine ck_isB (M' := m_Rd_chain) (As := [va_rf y2.1, va_rf y3.1]) k_Rd_readAsk rfl rfl rfl rfl rfl rfl (Nat.le_of_ble_eq_true rfl) (c_sp_Rd_chain  hy4) (fun hby4 => ?_)
          cases hy5 : sp_Node_init  y3.2.2.2.2.2.1 3 y1.1 y4.1 y4.2 with
          | none =>
            rw [hy5] at hp
            cases hp
          | some y5 =>
            rw [hy5] at hp
            try dsimp only at hp
            refine ck_inV (M' := m_Node_init) (As := [.int 3, .int y1.1, va_rf y4.1]) k_Rd_readAsk rfl rfl rfl rfl rfl rfl (Nat.le_of_ble_eq_true rfl) (c_sp_Node_init  hy5) ?_
            cases hp
            exact ck_ret (v := some (va_rf (some y3.2.2.2.2.2.1))) k_Rd_readAsk rfl rfl trivial rfl ⟨rfl, rfl⟩
def sp_Rd_readLoop (f : ck_S → Option (Option Nat × ck_S)) (v1 : Int32) (σ : ck_S) : Option (Option Nat × ck_S) := (match sp_Rd_readBody f  σ with
  | none => none
  | some y1 => (match y1.1 with
  | none => none
  | some b2 => (match egI y1.2.2.2.2.1 b2 2 4 with
  | none => none
  | some y3 => (if (y3 &&& 1) = 0 then (match sp_Node_init  y1.2.2.2.2.2.1 4 0 (some b2) (y1.2.1, y1.2.2.1, y1.2.2.2.1, (eset y1.2.2.2.2.1 y1.2.2.2.2.2.1 (.inr (2, gx_def gx_kd2))), (y1.2.2.2.2.2.1 + 1), (y1.2.2.2.2.2.2 + 6)) with
  | none => none
  | some y5 => some ((some y1.2.2.2.2.2.1), y5)) else (match sp_Rd_note  3 v1 y1.2 with
  | none => none
  | some y6 => (match sp_Node_init  y6.2.2.2.2.1 4 0 (some b2) (y6.1, y6.2.1, y6.2.2.1, (eset y6.2.2.2.1 y6.2.2.2.2.1 (.inr (2, gx_def gx_kd2))), (y6.2.2.2.2.1 + 1), (y6.2.2.2.2.2 + 6)) with
  | none => none
  | some y7 => some ((some y6.2.2.2.2.1), y7)))))))
theorem c_sp_Rd_readLoop (hf : rb_IH l F a A D f) (hD : D ≤ d) {v1 : Int32} {σ : ck_S} {r : Option Nat × ck_S} (hp : sp_Rd_readLoop f v1 σ = some r) : ck_Has l F (d + 3) m_Rd_readLoop rd_K a A [.ref a, .int v1] σ (fun w σ' => w = some (va_rf r.1) ∧ σ' = r.2) := by
  refine ck_meth (k := 1) (L := [some (.ref a), some (.int v1), none]) pn_Rd rfl (Nat.le_of_ble_eq_true rfl) ?_
  unfold sp_Rd_readLoop at hp
  refine ck_p (L' := [some (.ref a), some (.int v1), none]) (st' := [.ref a]) k_Rd_readLoop rfl rfl ?_
  cases hy1 : sp_Rd_readBody f  σ with
  | none =>
    rw [hy1] at hp
    cases hp
  | some y1 =>
    rw [hy1] at hp
    try dsimp only at hp
    refine ck_ivB (M' := m_Rd_readBody) (As := []) k_Rd_readLoop rfl rfl rfl rfl rfl rfl rfl (Nat.le_of_ble_eq_true rfl) (c_sp_Rd_readBody hf (by omega) hy1) (fun hby1 => ?_)
    refine ck_p (L' := [some (.ref a), some (.int v1), some (va_rf y1.1)]) (st' := []) k_Rd_readLoop rfl (by cases y1.1 <;> rfl) ?_
    refine ck_p (L' := [some (.ref a), some (.int v1), some (va_rf y1.1)]) (st' := [va_rf y1.1]) k_Rd_readLoop rfl (by cases y1.1 <;> rfl) ?_
    cases hb2 : y1.1 with
    | none =>
      rw [hb2] at hp
      try dsimp only at hp
      cases hp
    | some b2 =>
      rw [hb2] at hp
      try dsimp only at hp
      cases hy3 : egI y1.2.2.2.2.1 b2 2 4 with
      | none =>
        rw [hy3] at hp
        cases hp
      | some y3 =>
        rw [hy3] at hp
        try dsimp only at hp
        refine ck_gE k_Rd_readLoop rfl rfl rfl (egI_of hy3) ?_
        refine ck_p (L' := [some (.ref a), some (.int v1), some (.ref b2)]) (st' := [.int 1, .int y3]) k_Rd_readLoop rfl rfl ?_
        refine ck_p (L' := [some (.ref a), some (.int v1), some (.ref b2)]) (st' := [.int (y3 &&& 1)]) k_Rd_readLoop rfl rfl ?_
        refine ck_if k_Rd_readLoop rfl rfl rfl (fun h4 => ?_) (fun h4 => ?_)
        · skip
          rw [if_pos (show (y3 &&& 1) = 0 from h4)] at hp
          refine ck_nw k_Rd_readLoop rfl rfl rfl rfl rfl rfl ?_
          refine ck_p (L' := [some (.ref a), some (.int v1), some (.ref b2)]) (st' := [.ref y1.2.2.2.2.2.1, .ref y1.2.2.2.2.2.1]) k_Rd_readLoop rfl rfl ?_
          refine ck_p (L' := [some (.ref a), some (.int v1), some (.ref b2)]) (st' := [.int 4, .ref y1.2.2.2.2.2.1, .ref y1.2.2.2.2.2.1]) k_Rd_readLoop rfl rfl ?_
          refine ck_p (L' := [some (.ref a), some (.int v1), some (.ref b2)]) (st' := [.int 0, .int 4, .ref y1.2.2.2.2.2.1, .ref y1.2.2.2.2.2.1]) k_Rd_readLoop rfl rfl ?_
          refine ck_p (L' := [some (.ref a), some (.int v1), some (.ref b2)]) (st' := [.ref b2, .int 0, .int 4, .ref y1.2.2.2.2.2.1, .ref y1.2.2.2.2.2.1]) k_Rd_readLoop rfl rfl ?_
          cases hy5 : sp_Node_init  y1.2.2.2.2.2.1 4 0 (some b2) (y1.2.1, y1.2.2.1, y1.2.2.2.1, (eset y1.2.2.2.2.1 y1.2.2.2.2.2.1 (.inr (2, gx_def gx_kd2))), (y1.2.2.2.2.2.1 + 1), (y1.2.2.2.2.2.2 + 6)) with
          | none =>
            rw [hy5] at hp
            cases hp
          | some y5 =>
            rw [hy5] at hp
            try dsimp only at hp
            refine ck_inV (M' := m_Node_init) (As := [.int 4, .int 0, .ref b2]) k_Rd_readLoop rfl rfl rfl rfl rfl rfl (Nat.le_of_ble_eq_true rfl) (c_sp_Node_init  hy5) ?_
            cases hp
            exact ck_ret (v := some (va_rf (some y1.2.2.2.2.2.1))) k_Rd_readLoop rfl rfl trivial rfl ⟨rfl, rfl⟩
        · skip
          rw [if_neg (show ¬ ((y3 &&& 1) = 0) from h4)] at hp
          refine ck_p (L' := [some (.ref a), some (.int v1), some (.ref b2)]) (st' := [.ref a]) k_Rd_readLoop rfl rfl ?_
          refine ck_p (L' := [some (.ref a), some (.int v1), some (.ref b2)]) (st' := [.int 3, .ref a]) k_Rd_readLoop rfl rfl ?_
          refine ck_p (L' := [some (.ref a), some (.int v1), some (.ref b2)]) (st' := [.int v1, .int 3, .ref a]) k_Rd_readLoop rfl rfl ?_
          cases hy6 : sp_Rd_note  3 v1 y1.2 with
          | none =>
            rw [hy6] at hp
            cases hp
          | some y6 =>
            rw [hy6] at hp
            try dsimp only at hp
            refine ck_ivV (M' := m_Rd_note) (As := [.int 3, .int v1]) k_Rd_readLoop rfl rfl rfl rfl rfl rfl rfl (Nat.le_of_ble_eq_true rfl) (c_sp_Rd_note  hy6) ?_
            refine ck_nw k_Rd_readLoop rfl rfl rfl rfl rfl rfl ?_
            refine ck_p (L' := [some (.ref a), some (.int v1), some (.ref b2)]) (st' := [.ref y6.2.2.2.2.1, .ref y6.2.2.2.2.1]) k_Rd_readLoop rfl rfl ?_
            refine ck_p (L' := [some (.ref a), some (.int v1), some (.ref b2)]) (st' := [.int 4, .ref y6.2.2.2.2.1, .ref y6.2.2.2.2.1]) k_Rd_readLoop rfl rfl ?_
            refine ck_p (L' := [some (.ref a), some (.int v1), some (.ref b2)]) (st' := [.int 0, .int 4, .ref y6.2.2.2.2.1, .ref y6.2.2.2.2.1]) k_Rd_readLoop rfl rfl ?_
            refine ck_p (L' := [some (.ref a), some (.int v1), some (.ref b2)]) (st' := [.ref b2, .int 0, .int 4, .ref y6.2.2.2.2.1, .ref y6.2.2.2.2.1]) k_Rd_readLoop rfl rfl ?_
            cases hy7 : sp_Node_init  y6.2.2.2.2.1 4 0 (some b2) (y6.1, y6.2.1, y6.2.2.1, (eset y6.2.2.2.1 y6.2.2.2.2.1 (.inr (2, gx_def gx_kd2))), (y6.2.2.2.2.1 + 1), (y6.2.2.2.2.2 + 6)) with
            | none =>
              rw [hy7] at hp
              cases hp
            | some y7 =>
              rw [hy7] at hp
              try dsimp only at hp
              refine ck_inV (M' := m_Node_init) (As := [.int 4, .int 0, .ref b2]) k_Rd_readLoop rfl rfl rfl rfl rfl rfl (Nat.le_of_ble_eq_true rfl) (c_sp_Node_init  hy7) ?_
              cases hp
              exact ck_ret (v := some (va_rf (some y6.2.2.2.2.1))) k_Rd_readLoop rfl rfl trivial rfl ⟨rfl, rfl⟩
def sp_Rd_readSuspend (f : ck_S → Option (Option Nat × ck_S))  (σ : ck_S) : Option (Option Nat × ck_S) := (match sp_Rd_readToldSignal   σ with
  | none => none
  | some y1 => (match sp_Rd_readBody f  (y1.2.1, y1.2.2.1, y1.2.2.2.1, (eset y1.2.2.2.2.1 y1.2.2.2.2.2.1 (.inr (2, gx_def gx_kd2))), (y1.2.2.2.2.2.1 + 1), (y1.2.2.2.2.2.2 + 6)) with
  | none => none
  | some y2 => (match sp_Node_init  y1.2.2.2.2.2.1 5 y1.1 y2.1 y2.2 with
  | none => none
  | some y3 => some ((some y1.2.2.2.2.2.1), y3))))
theorem c_sp_Rd_readSuspend (hf : rb_IH l F a A D f) (hD : D ≤ d)  {σ : ck_S} {r : Option Nat × ck_S} (hp : sp_Rd_readSuspend f  σ = some r) : ck_Has l F (d + 3) m_Rd_readSuspend rd_K a A [.ref a] σ (fun w σ' => w = some (va_rf r.1) ∧ σ' = r.2) := by
  refine ck_meth (k := 1) (L := [some (.ref a), none]) pn_Rd rfl (Nat.le_of_ble_eq_true rfl) ?_
  unfold sp_Rd_readSuspend at hp
  refine ck_p (L' := [some (.ref a), none]) (st' := [.ref a]) k_Rd_readSuspend rfl rfl ?_
  cases hy1 : sp_Rd_readToldSignal   σ with
  | none =>
    rw [hy1] at hp
    cases hp
  | some y1 =>
    rw [hy1] at hp
    try dsimp only at hp
    refine ck_ivB (M' := m_Rd_readToldSignal) (As := []) k_Rd_readSuspend rfl rfl rfl rfl rfl rfl rfl (Nat.le_of_ble_eq_true rfl) (c_sp_Rd_readToldSignal  hy1) (fun hby1 => ?_)
    refine ck_p (L' := [some (.ref a), some (.int y1.1)]) (st' := []) k_Rd_readSuspend rfl rfl ?_
    refine ck_nw k_Rd_readSuspend rfl rfl rfl rfl rfl rfl ?_
    refine ck_p (L' := [some (.ref a), some (.int y1.1)]) (st' := [.ref y1.2.2.2.2.2.1, .ref y1.2.2.2.2.2.1]) k_Rd_readSuspend rfl rfl ?_
    refine ck_p (L' := [some (.ref a), some (.int y1.1)]) (st' := [.int 5, .ref y1.2.2.2.2.2.1, .ref y1.2.2.2.2.2.1]) k_Rd_readSuspend rfl rfl ?_
    refine ck_p (L' := [some (.ref a), some (.int y1.1)]) (st' := [.int y1.1, .int 5, .ref y1.2.2.2.2.2.1, .ref y1.2.2.2.2.2.1]) k_Rd_readSuspend rfl rfl ?_
    refine ck_p (L' := [some (.ref a), some (.int y1.1)]) (st' := [.ref a, .int y1.1, .int 5, .ref y1.2.2.2.2.2.1, .ref y1.2.2.2.2.2.1]) k_Rd_readSuspend rfl rfl ?_
    cases hy2 : sp_Rd_readBody f  (y1.2.1, y1.2.2.1, y1.2.2.2.1, (eset y1.2.2.2.2.1 y1.2.2.2.2.2.1 (.inr (2, gx_def gx_kd2))), (y1.2.2.2.2.2.1 + 1), (y1.2.2.2.2.2.2 + 6)) with
    | none =>
      rw [hy2] at hp
      cases hp
    | some y2 =>
      rw [hy2] at hp
      try dsimp only at hp
      refine ck_ivB (M' := m_Rd_readBody) (As := []) k_Rd_readSuspend rfl rfl rfl rfl rfl rfl rfl (Nat.le_of_ble_eq_true rfl) (c_sp_Rd_readBody hf (by omega) hy2) (fun hby2 => ?_)
      cases hy3 : sp_Node_init  y1.2.2.2.2.2.1 5 y1.1 y2.1 y2.2 with
      | none =>
        rw [hy3] at hp
        cases hp
      | some y3 =>
        rw [hy3] at hp
        try dsimp only at hp
        refine ck_inV (M' := m_Node_init) (As := [.int 5, .int y1.1, va_rf y2.1]) k_Rd_readSuspend rfl rfl rfl rfl rfl rfl (Nat.le_of_ble_eq_true rfl) (c_sp_Node_init  hy3) ?_
        cases hp
        exact ck_ret (v := some (va_rf (some y1.2.2.2.2.2.1))) k_Rd_readSuspend rfl rfl trivial rfl ⟨rfl, rfl⟩
def sp_Rd_readTrapped (f : ck_S → Option (Option Nat × ck_S)) (v1 : Int32) (σ : ck_S) : Option (Option Nat × ck_S) := (if (13 : Int32) ≤ (σ.1 14) then (match sp_Rd_readBody f  ((upd σ.1 14 ((σ.1 14) + 1)), σ.2.1, σ.2.2.1, σ.2.2.2.1, σ.2.2.2.2.1, σ.2.2.2.2.2) with
  | none => none
  | some y2 => some (y2.1, ((upd y2.2.1 14 ((y2.2.1 14) - 1)), y2.2.2.1, y2.2.2.2.1, y2.2.2.2.2.1, y2.2.2.2.2.2.1, y2.2.2.2.2.2.2))) else (if gi (σ.1 14) 13 = true then (match sp_Rd_readBody f  ((upd σ.1 14 ((σ.1 14) + 1)), (gm_up σ.2.1 4 (upd (σ.2.1 4) (σ.1 14).toNatClampNeg v1)), σ.2.2.1, σ.2.2.2.1, σ.2.2.2.2.1, σ.2.2.2.2.2) with
  | none => none
  | some y4 => some (y4.1, ((upd y4.2.1 14 ((y4.2.1 14) - 1)), y4.2.2.1, y4.2.2.2.1, y4.2.2.2.2.1, y4.2.2.2.2.2.1, y4.2.2.2.2.2.2))) else none))
theorem c_sp_Rd_readTrapped (hf : rb_IH l F a A D f) (hD : D ≤ d) {v1 : Int32} {σ : ck_S} {r : Option Nat × ck_S} (hp : sp_Rd_readTrapped f v1 σ = some r) : ck_Has l F (d + 3) m_Rd_readTrapped rd_K a A [.ref a, .int v1] σ (fun w σ' => w = some (va_rf r.1) ∧ σ' = r.2) := by
  refine ck_meth (k := 1) (L := [some (.ref a), some (.int v1), none]) pn_Rd rfl (Nat.le_of_ble_eq_true rfl) ?_
  unfold sp_Rd_readTrapped at hp
  refine ck_p (L' := [some (.ref a), some (.int v1), none]) (st' := [.ref a]) k_Rd_readTrapped rfl rfl ?_
  refine ck_g k_Rd_readTrapped rfl rfl rfl rfl ?_
  refine ck_p (L' := [some (.ref a), some (.int v1), none]) (st' := [.ref a, .int (σ.1 14)]) k_Rd_readTrapped rfl rfl ?_
  refine ck_g k_Rd_readTrapped rfl rfl rfl rfl ?_
  refine ck_ln k_Rd_readTrapped rfl rfl rfl (by decide) ?_
  refine ck_ic k_Rd_readTrapped rfl rfl rfl (fun h1 => ?_) (fun h1 => ?_)
  · skip
    rw [if_pos (show (13 : Int32) ≤ (σ.1 14) from h1)] at hp
    refine ck_p (L' := [some (.ref a), some (.int v1), none]) (st' := [.ref a]) k_Rd_readTrapped rfl rfl ?_
    refine ck_p (L' := [some (.ref a), some (.int v1), none]) (st' := [.ref a, .ref a]) k_Rd_readTrapped rfl rfl ?_
    refine ck_g k_Rd_readTrapped rfl rfl rfl rfl ?_
    refine ck_p (L' := [some (.ref a), some (.int v1), none]) (st' := [.int 1, .int (σ.1 14), .ref a]) k_Rd_readTrapped rfl rfl ?_
    refine ck_p (L' := [some (.ref a), some (.int v1), none]) (st' := [.int ((σ.1 14) + 1), .ref a]) k_Rd_readTrapped rfl rfl ?_
    refine ck_pt k_Rd_readTrapped rfl rfl rfl trivial (Nat.le_of_ble_eq_true rfl) rfl ?_
    refine ck_p (L' := [some (.ref a), some (.int v1), none]) (st' := [.ref a]) k_Rd_readTrapped rfl rfl ?_
    cases hy2 : sp_Rd_readBody f  ((upd σ.1 14 ((σ.1 14) + 1)), σ.2.1, σ.2.2.1, σ.2.2.2.1, σ.2.2.2.2.1, σ.2.2.2.2.2) with
    | none =>
      rw [hy2] at hp
      cases hp
    | some y2 =>
      rw [hy2] at hp
      try dsimp only at hp
      refine ck_ivB (M' := m_Rd_readBody) (As := []) k_Rd_readTrapped rfl rfl rfl rfl rfl rfl rfl (Nat.le_of_ble_eq_true rfl) (c_sp_Rd_readBody hf (by omega) hy2) (fun hby2 => ?_)
      refine ck_p (L' := [some (.ref a), some (.int v1), some (va_rf y2.1)]) (st' := []) k_Rd_readTrapped rfl (by cases y2.1 <;> rfl) ?_
      refine ck_p (L' := [some (.ref a), some (.int v1), some (va_rf y2.1)]) (st' := [.ref a]) k_Rd_readTrapped rfl rfl ?_
      refine ck_p (L' := [some (.ref a), some (.int v1), some (va_rf y2.1)]) (st' := [.ref a, .ref a]) k_Rd_readTrapped rfl rfl ?_
      refine ck_g k_Rd_readTrapped rfl rfl rfl rfl ?_
      refine ck_p (L' := [some (.ref a), some (.int v1), some (va_rf y2.1)]) (st' := [.int 1, .int (y2.2.1 14), .ref a]) k_Rd_readTrapped rfl rfl ?_
      refine ck_p (L' := [some (.ref a), some (.int v1), some (va_rf y2.1)]) (st' := [.int ((y2.2.1 14) - 1), .ref a]) k_Rd_readTrapped rfl rfl ?_
      refine ck_pt k_Rd_readTrapped rfl rfl rfl trivial (Nat.le_of_ble_eq_true rfl) rfl ?_
      refine ck_p (L' := [some (.ref a), some (.int v1), some (va_rf y2.1)]) (st' := [va_rf y2.1]) k_Rd_readTrapped rfl (by cases y2.1 <;> rfl) ?_
      cases hp
      exact ck_ret (v := some (va_rf y2.1)) k_Rd_readTrapped rfl rfl (by cases y2.1 <;> exact trivial) rfl ⟨rfl, rfl⟩
  · skip
    rw [if_neg (show ¬ ((13 : Int32) ≤ (σ.1 14)) from h1)] at hp
    refine ck_p (L' := [some (.ref a), some (.int v1), none]) (st' := [.ref a]) k_Rd_readTrapped rfl rfl ?_
    refine ck_g k_Rd_readTrapped rfl rfl rfl rfl ?_
    refine ck_p (L' := [some (.ref a), some (.int v1), none]) (st' := [.ref a, .ref (A 4)]) k_Rd_readTrapped rfl rfl ?_
    refine ck_g k_Rd_readTrapped rfl rfl rfl rfl ?_
    refine ck_p (L' := [some (.ref a), some (.int v1), none]) (st' := [.int v1, .int (σ.1 14), .ref (A 4)]) k_Rd_readTrapped rfl rfl ?_
    by_cases g3 : gi (σ.1 14) 13 = true
    · rw [if_pos g3] at hp
      refine ck_sto k_Rd_readTrapped rfl rfl rfl (gi_in g3) (by decide) ?_
      refine ck_p (L' := [some (.ref a), some (.int v1), none]) (st' := [.ref a]) k_Rd_readTrapped rfl rfl ?_
      refine ck_p (L' := [some (.ref a), some (.int v1), none]) (st' := [.ref a, .ref a]) k_Rd_readTrapped rfl rfl ?_
      refine ck_g k_Rd_readTrapped rfl rfl rfl rfl ?_
      refine ck_p (L' := [some (.ref a), some (.int v1), none]) (st' := [.int 1, .int (σ.1 14), .ref a]) k_Rd_readTrapped rfl rfl ?_
      refine ck_p (L' := [some (.ref a), some (.int v1), none]) (st' := [.int ((σ.1 14) + 1), .ref a]) k_Rd_readTrapped rfl rfl ?_
      refine ck_pt k_Rd_readTrapped rfl rfl rfl trivial (Nat.le_of_ble_eq_true rfl) rfl ?_
      refine ck_p (L' := [some (.ref a), some (.int v1), none]) (st' := [.ref a]) k_Rd_readTrapped rfl rfl ?_
      cases hy4 : sp_Rd_readBody f  ((upd σ.1 14 ((σ.1 14) + 1)), (gm_up σ.2.1 4 (upd (σ.2.1 4) (σ.1 14).toNatClampNeg v1)), σ.2.2.1, σ.2.2.2.1, σ.2.2.2.2.1, σ.2.2.2.2.2) with
      | none =>
        rw [hy4] at hp
        cases hp
      | some y4 =>
        rw [hy4] at hp
        try dsimp only at hp
        refine ck_ivB (M' := m_Rd_readBody) (As := []) k_Rd_readTrapped rfl rfl rfl rfl rfl rfl rfl (Nat.le_of_ble_eq_true rfl) (c_sp_Rd_readBody hf (by omega) hy4) (fun hby4 => ?_)
        refine ck_p (L' := [some (.ref a), some (.int v1), some (va_rf y4.1)]) (st' := []) k_Rd_readTrapped rfl (by cases y4.1 <;> rfl) ?_
        refine ck_p (L' := [some (.ref a), some (.int v1), some (va_rf y4.1)]) (st' := [.ref a]) k_Rd_readTrapped rfl rfl ?_
        refine ck_p (L' := [some (.ref a), some (.int v1), some (va_rf y4.1)]) (st' := [.ref a, .ref a]) k_Rd_readTrapped rfl rfl ?_
        refine ck_g k_Rd_readTrapped rfl rfl rfl rfl ?_
        refine ck_p (L' := [some (.ref a), some (.int v1), some (va_rf y4.1)]) (st' := [.int 1, .int (y4.2.1 14), .ref a]) k_Rd_readTrapped rfl rfl ?_
        refine ck_p (L' := [some (.ref a), some (.int v1), some (va_rf y4.1)]) (st' := [.int ((y4.2.1 14) - 1), .ref a]) k_Rd_readTrapped rfl rfl ?_
        refine ck_pt k_Rd_readTrapped rfl rfl rfl trivial (Nat.le_of_ble_eq_true rfl) rfl ?_
        refine ck_p (L' := [some (.ref a), some (.int v1), some (va_rf y4.1)]) (st' := [va_rf y4.1]) k_Rd_readTrapped rfl (by cases y4.1 <;> rfl) ?_
        cases hp
        exact ck_ret (v := some (va_rf y4.1)) k_Rd_readTrapped rfl rfl (by cases y4.1 <;> exact trivial) rfl ⟨rfl, rfl⟩
    · rw [if_neg g3] at hp
      cases hp
def sp_Rd_readLocal (f : ck_S → Option (Option Nat × ck_S)) (v1 : Int32) (σ : ck_S) : Option (Option Nat × ck_S) := (if (σ.1 15) < 4 then (match sp_Rd_readNewSignal   σ with
  | none => none
  | some y2 => (match sp_Rd_readBody f  ((upd (upd y2.2.1 12 ((y2.2.1 12) ||| y2.1)) 15 ((y2.2.1 15) + 1)), y2.2.2.1, y2.2.2.2.1, y2.2.2.2.2.1, y2.2.2.2.2.2.1, y2.2.2.2.2.2.2) with
  | none => none
  | some y3 => (match sp_Node_init  y3.2.2.2.2.2.1 8 y2.1 y3.1 ((upd (upd y3.2.1 15 ((y3.2.1 15) - 1)) 12 (σ.1 12)), y3.2.2.1, y3.2.2.2.1, (eset y3.2.2.2.2.1 y3.2.2.2.2.2.1 (.inr (2, gx_def gx_kd2))), (y3.2.2.2.2.2.1 + 1), (y3.2.2.2.2.2.2 + 6)) with
  | none => none
  | some y4 => some ((some y3.2.2.2.2.2.1), y4)))) else (match sp_Rd_note  4 v1 σ with
  | none => none
  | some y5 => (match sp_Rd_readNewSignal   y5 with
  | none => none
  | some y6 => (match sp_Rd_readBody f  ((upd (upd y6.2.1 12 ((y6.2.1 12) ||| y6.1)) 15 ((y6.2.1 15) + 1)), y6.2.2.1, y6.2.2.2.1, y6.2.2.2.2.1, y6.2.2.2.2.2.1, y6.2.2.2.2.2.2) with
  | none => none
  | some y7 => (match sp_Node_init  y7.2.2.2.2.2.1 8 y6.1 y7.1 ((upd (upd y7.2.1 15 ((y7.2.1 15) - 1)) 12 (y5.1 12)), y7.2.2.1, y7.2.2.2.1, (eset y7.2.2.2.2.1 y7.2.2.2.2.2.1 (.inr (2, gx_def gx_kd2))), (y7.2.2.2.2.2.1 + 1), (y7.2.2.2.2.2.2 + 6)) with
  | none => none
  | some y8 => some ((some y7.2.2.2.2.2.1), y8))))))
theorem c_sp_Rd_readLocal (hf : rb_IH l F a A D f) (hD : D ≤ d) {v1 : Int32} {σ : ck_S} {r : Option Nat × ck_S} (hp : sp_Rd_readLocal f v1 σ = some r) : ck_Has l F (d + 3) m_Rd_readLocal rd_K a A [.ref a, .int v1] σ (fun w σ' => w = some (va_rf r.1) ∧ σ' = r.2) := by
  refine ck_meth (k := 3) (L := [some (.ref a), some (.int v1), none, none, none]) pn_Rd rfl (Nat.le_of_ble_eq_true rfl) ?_
  unfold sp_Rd_readLocal at hp
  refine ck_p (L' := [some (.ref a), some (.int v1), none, none, none]) (st' := [.ref a]) k_Rd_readLocal rfl rfl ?_
  refine ck_g k_Rd_readLocal rfl rfl rfl rfl ?_
  refine ck_p (L' := [some (.ref a), some (.int v1), none, none, none]) (st' := [.int 4, .int (σ.1 15)]) k_Rd_readLocal rfl rfl ?_
  refine ck_ic k_Rd_readLocal rfl rfl rfl (fun h1 => ?_) (fun h1 => ?_)
  · skip
    rw [if_pos (show (σ.1 15) < 4 from h1)] at hp
    refine ck_p (L' := [some (.ref a), some (.int v1), none, none, none]) (st' := [.ref a]) k_Rd_readLocal rfl rfl ?_
    refine ck_g k_Rd_readLocal rfl rfl rfl rfl ?_
    refine ck_p (L' := [some (.ref a), some (.int v1), some (.int (σ.1 12)), none, none]) (st' := []) k_Rd_readLocal rfl rfl ?_
    refine ck_p (L' := [some (.ref a), some (.int v1), some (.int (σ.1 12)), none, none]) (st' := [.ref a]) k_Rd_readLocal rfl rfl ?_
    cases hy2 : sp_Rd_readNewSignal   σ with
    | none =>
      rw [hy2] at hp
      cases hp
    | some y2 =>
      rw [hy2] at hp
      try dsimp only at hp
      refine ck_ivB (M' := m_Rd_readNewSignal) (As := []) k_Rd_readLocal rfl rfl rfl rfl rfl rfl rfl (Nat.le_of_ble_eq_true rfl) (c_sp_Rd_readNewSignal  hy2) (fun hby2 => ?_)
      refine ck_p (L' := [some (.ref a), some (.int v1), some (.int (σ.1 12)), some (.int y2.1), none]) (st' := []) k_Rd_readLocal rfl rfl ?_
      refine ck_p (L' := [some (.ref a), some (.int v1), some (.int (σ.1 12)), some (.int y2.1), none]) (st' := [.ref a]) k_Rd_readLocal rfl rfl ?_
      refine ck_p (L' := [some (.ref a), some (.int v1), some (.int (σ.1 12)), some (.int y2.1), none]) (st' := [.ref a, .ref a]) k_Rd_readLocal rfl rfl ?_
      refine ck_g k_Rd_readLocal rfl rfl rfl rfl ?_
      refine ck_p (L' := [some (.ref a), some (.int v1), some (.int (σ.1 12)), some (.int y2.1), none]) (st' := [.int y2.1, .int (y2.2.1 12), .ref a]) k_Rd_readLocal rfl rfl ?_
      refine ck_p (L' := [some (.ref a), some (.int v1), some (.int (σ.1 12)), some (.int y2.1), none]) (st' := [.int ((y2.2.1 12) ||| y2.1), .ref a]) k_Rd_readLocal rfl rfl ?_
      refine ck_pt k_Rd_readLocal rfl rfl rfl trivial (Nat.le_of_ble_eq_true rfl) rfl ?_
      refine ck_p (L' := [some (.ref a), some (.int v1), some (.int (σ.1 12)), some (.int y2.1), none]) (st' := [.ref a]) k_Rd_readLocal rfl rfl ?_
      refine ck_p (L' := [some (.ref a), some (.int v1), some (.int (σ.1 12)), some (.int y2.1), none]) (st' := [.ref a, .ref a]) k_Rd_readLocal rfl rfl ?_
      refine ck_g k_Rd_readLocal rfl rfl rfl rfl ?_
      refine ck_p (L' := [some (.ref a), some (.int v1), some (.int (σ.1 12)), some (.int y2.1), none]) (st' := [.int 1, .int (y2.2.1 15), .ref a]) k_Rd_readLocal rfl rfl ?_
      refine ck_p (L' := [some (.ref a), some (.int v1), some (.int (σ.1 12)), some (.int y2.1), none]) (st' := [.int ((y2.2.1 15) + 1), .ref a]) k_Rd_readLocal rfl rfl ?_
      refine ck_pt k_Rd_readLocal rfl rfl rfl trivial (Nat.le_of_ble_eq_true rfl) rfl ?_
      refine ck_p (L' := [some (.ref a), some (.int v1), some (.int (σ.1 12)), some (.int y2.1), none]) (st' := [.ref a]) k_Rd_readLocal rfl rfl ?_
      cases hy3 : sp_Rd_readBody f  ((upd (upd y2.2.1 12 ((y2.2.1 12) ||| y2.1)) 15 ((y2.2.1 15) + 1)), y2.2.2.1, y2.2.2.2.1, y2.2.2.2.2.1, y2.2.2.2.2.2.1, y2.2.2.2.2.2.2) with
      | none =>
        rw [hy3] at hp
        cases hp
      | some y3 =>
        rw [hy3] at hp
        try dsimp only at hp
        refine ck_ivB (M' := m_Rd_readBody) (As := []) k_Rd_readLocal rfl rfl rfl rfl rfl rfl rfl (Nat.le_of_ble_eq_true rfl) (c_sp_Rd_readBody hf (by omega) hy3) (fun hby3 => ?_)
        refine ck_p (L' := [some (.ref a), some (.int v1), some (.int (σ.1 12)), some (.int y2.1), some (va_rf y3.1)]) (st' := []) k_Rd_readLocal rfl (by cases y3.1 <;> rfl) ?_
        refine ck_p (L' := [some (.ref a), some (.int v1), some (.int (σ.1 12)), some (.int y2.1), some (va_rf y3.1)]) (st' := [.ref a]) k_Rd_readLocal rfl rfl ?_
        refine ck_p (L' := [some (.ref a), some (.int v1), some (.int (σ.1 12)), some (.int y2.1), some (va_rf y3.1)]) (st' := [.ref a, .ref a]) k_Rd_readLocal rfl rfl ?_
        refine ck_g k_Rd_readLocal rfl rfl rfl rfl ?_
        refine ck_p (L' := [some (.ref a), some (.int v1), some (.int (σ.1 12)), some (.int y2.1), some (va_rf y3.1)]) (st' := [.int 1, .int (y3.2.1 15), .ref a]) k_Rd_readLocal rfl rfl ?_
        refine ck_p (L' := [some (.ref a), some (.int v1), some (.int (σ.1 12)), some (.int y2.1), some (va_rf y3.1)]) (st' := [.int ((y3.2.1 15) - 1), .ref a]) k_Rd_readLocal rfl rfl ?_
        refine ck_pt k_Rd_readLocal rfl rfl rfl trivial (Nat.le_of_ble_eq_true rfl) rfl ?_
        refine ck_p (L' := [some (.ref a), some (.int v1), some (.int (σ.1 12)), some (.int y2.1), some (va_rf y3.1)]) (st' := [.ref a]) k_Rd_readLocal rfl rfl ?_
        refine ck_p (L' := [some (.ref a), some (.int v1), some (.int (σ.1 12)), some (.int y2.1), some (va_rf y3.1)]) (st' := [.int (σ.1 12), .ref a]) k_Rd_readLocal rfl rfl ?_
        refine ck_pt k_Rd_readLocal rfl rfl rfl trivial (Nat.le_of_ble_eq_true rfl) rfl ?_
        refine ck_nw k_Rd_readLocal rfl rfl rfl rfl rfl rfl ?_
        refine ck_p (L' := [some (.ref a), some (.int v1), some (.int (σ.1 12)), some (.int y2.1), some (va_rf y3.1)]) (st' := [.ref y3.2.2.2.2.2.1, .ref y3.2.2.2.2.2.1]) k_Rd_readLocal rfl rfl ?_
        refine ck_p (L' := [some (.ref a), some (.int v1), some (.int (σ.1 12)), some (.int y2.1), some (va_rf y3.1)]) (st' := [.int 8, .ref y3.2.2.2.2.2.1, .ref y3.2.2.2.2.2.1]) k_Rd_readLocal rfl rfl ?_
        refine ck_p (L' := [some (.ref a), some (.int v1), some (.int (σ.1 12)), some (.int y2.1), some (va_rf y3.1)]) (st' := [.int y2.1, .int 8, .ref y3.2.2.2.2.2.1, .ref y3.2.2.2.2.2.1]) k_Rd_readLocal rfl rfl ?_
        refine ck_p (L' := [some (.ref a), some (.int v1), some (.int (σ.1 12)), some (.int y2.1), some (va_rf y3.1)]) (st' := [va_rf y3.1, .int y2.1, .int 8, .ref y3.2.2.2.2.2.1, .ref y3.2.2.2.2.2.1]) k_Rd_readLocal rfl (by cases y3.1 <;> rfl) ?_
        cases hy4 : sp_Node_init  y3.2.2.2.2.2.1 8 y2.1 y3.1 ((upd (upd y3.2.1 15 ((y3.2.1 15) - 1)) 12 (σ.1 12)), y3.2.2.1, y3.2.2.2.1, (eset y3.2.2.2.2.1 y3.2.2.2.2.2.1 (.inr (2, gx_def gx_kd2))), (y3.2.2.2.2.2.1 + 1), (y3.2.2.2.2.2.2 + 6)) with
        | none =>
          rw [hy4] at hp
          cases hp
        | some y4 =>
          rw [hy4] at hp
          try dsimp only at hp
          refine ck_inV (M' := m_Node_init) (As := [.int 8, .int y2.1, va_rf y3.1]) k_Rd_readLocal rfl rfl rfl rfl rfl rfl (Nat.le_of_ble_eq_true rfl) (c_sp_Node_init  hy4) ?_
          cases hp
          exact ck_ret (v := some (va_rf (some y3.2.2.2.2.2.1))) k_Rd_readLocal rfl rfl trivial rfl ⟨rfl, rfl⟩
  · skip
    rw [if_neg (show ¬ ((σ.1 15) < 4) from h1)] at hp
    refine ck_p (L' := [some (.ref a), some (.int v1), none, none, none]) (st' := [.ref a]) k_Rd_readLocal rfl rfl ?_
    refine ck_p (L' := [some (.ref a), some (.int v1), none, none, none]) (st' := [.int 4, .ref a]) k_Rd_readLocal rfl rfl ?_
    refine ck_p (L' := [some (.ref a), some (.int v1), none, none, none]) (st' := [.int v1, .int 4, .ref a]) k_Rd_readLocal rfl rfl ?_
    cases hy5 : sp_Rd_note  4 v1 σ with
    | none =>
      rw [hy5] at hp
      cases hp
    | some y5 =>
      rw [hy5] at hp
      try dsimp only at hp
      refine ck_ivV (M' := m_Rd_note) (As := [.int 4, .int v1]) k_Rd_readLocal rfl rfl rfl rfl rfl rfl rfl (Nat.le_of_ble_eq_true rfl) (c_sp_Rd_note  hy5) ?_
      refine ck_p (L' := [some (.ref a), some (.int v1), none, none, none]) (st' := [.ref a]) k_Rd_readLocal rfl rfl ?_
      refine ck_g k_Rd_readLocal rfl rfl rfl rfl ?_
      refine ck_p (L' := [some (.ref a), some (.int v1), some (.int (y5.1 12)), none, none]) (st' := []) k_Rd_readLocal rfl rfl ?_
      refine ck_p (L' := [some (.ref a), some (.int v1), some (.int (y5.1 12)), none, none]) (st' := [.ref a]) k_Rd_readLocal rfl rfl ?_
      cases hy6 : sp_Rd_readNewSignal   y5 with
      | none =>
        rw [hy6] at hp
        cases hp
      | some y6 =>
        rw [hy6] at hp
        try dsimp only at hp
        refine ck_ivB (M' := m_Rd_readNewSignal) (As := []) k_Rd_readLocal rfl rfl rfl rfl rfl rfl rfl (Nat.le_of_ble_eq_true rfl) (c_sp_Rd_readNewSignal  hy6) (fun hby6 => ?_)
        refine ck_p (L' := [some (.ref a), some (.int v1), some (.int (y5.1 12)), some (.int y6.1), none]) (st' := []) k_Rd_readLocal rfl rfl ?_
        refine ck_p (L' := [some (.ref a), some (.int v1), some (.int (y5.1 12)), some (.int y6.1), none]) (st' := [.ref a]) k_Rd_readLocal rfl rfl ?_
        refine ck_p (L' := [some (.ref a), some (.int v1), some (.int (y5.1 12)), some (.int y6.1), none]) (st' := [.ref a, .ref a]) k_Rd_readLocal rfl rfl ?_
        refine ck_g k_Rd_readLocal rfl rfl rfl rfl ?_
        refine ck_p (L' := [some (.ref a), some (.int v1), some (.int (y5.1 12)), some (.int y6.1), none]) (st' := [.int y6.1, .int (y6.2.1 12), .ref a]) k_Rd_readLocal rfl rfl ?_
        refine ck_p (L' := [some (.ref a), some (.int v1), some (.int (y5.1 12)), some (.int y6.1), none]) (st' := [.int ((y6.2.1 12) ||| y6.1), .ref a]) k_Rd_readLocal rfl rfl ?_
        refine ck_pt k_Rd_readLocal rfl rfl rfl trivial (Nat.le_of_ble_eq_true rfl) rfl ?_
        refine ck_p (L' := [some (.ref a), some (.int v1), some (.int (y5.1 12)), some (.int y6.1), none]) (st' := [.ref a]) k_Rd_readLocal rfl rfl ?_
        refine ck_p (L' := [some (.ref a), some (.int v1), some (.int (y5.1 12)), some (.int y6.1), none]) (st' := [.ref a, .ref a]) k_Rd_readLocal rfl rfl ?_
        refine ck_g k_Rd_readLocal rfl rfl rfl rfl ?_
        refine ck_p (L' := [some (.ref a), some (.int v1), some (.int (y5.1 12)), some (.int y6.1), none]) (st' := [.int 1, .int (y6.2.1 15), .ref a]) k_Rd_readLocal rfl rfl ?_
        refine ck_p (L' := [some (.ref a), some (.int v1), some (.int (y5.1 12)), some (.int y6.1), none]) (st' := [.int ((y6.2.1 15) + 1), .ref a]) k_Rd_readLocal rfl rfl ?_
        refine ck_pt k_Rd_readLocal rfl rfl rfl trivial (Nat.le_of_ble_eq_true rfl) rfl ?_
        refine ck_p (L' := [some (.ref a), some (.int v1), some (.int (y5.1 12)), some (.int y6.1), none]) (st' := [.ref a]) k_Rd_readLocal rfl rfl ?_
        cases hy7 : sp_Rd_readBody f  ((upd (upd y6.2.1 12 ((y6.2.1 12) ||| y6.1)) 15 ((y6.2.1 15) + 1)), y6.2.2.1, y6.2.2.2.1, y6.2.2.2.2.1, y6.2.2.2.2.2.1, y6.2.2.2.2.2.2) with
        | none =>
          rw [hy7] at hp
          cases hp
        | some y7 =>
          rw [hy7] at hp
          try dsimp only at hp
          refine ck_ivB (M' := m_Rd_readBody) (As := []) k_Rd_readLocal rfl rfl rfl rfl rfl rfl rfl (Nat.le_of_ble_eq_true rfl) (c_sp_Rd_readBody hf (by omega) hy7) (fun hby7 => ?_)
          refine ck_p (L' := [some (.ref a), some (.int v1), some (.int (y5.1 12)), some (.int y6.1), some (va_rf y7.1)]) (st' := []) k_Rd_readLocal rfl (by cases y7.1 <;> rfl) ?_
          refine ck_p (L' := [some (.ref a), some (.int v1), some (.int (y5.1 12)), some (.int y6.1), some (va_rf y7.1)]) (st' := [.ref a]) k_Rd_readLocal rfl rfl ?_
          refine ck_p (L' := [some (.ref a), some (.int v1), some (.int (y5.1 12)), some (.int y6.1), some (va_rf y7.1)]) (st' := [.ref a, .ref a]) k_Rd_readLocal rfl rfl ?_
          refine ck_g k_Rd_readLocal rfl rfl rfl rfl ?_
          refine ck_p (L' := [some (.ref a), some (.int v1), some (.int (y5.1 12)), some (.int y6.1), some (va_rf y7.1)]) (st' := [.int 1, .int (y7.2.1 15), .ref a]) k_Rd_readLocal rfl rfl ?_
          refine ck_p (L' := [some (.ref a), some (.int v1), some (.int (y5.1 12)), some (.int y6.1), some (va_rf y7.1)]) (st' := [.int ((y7.2.1 15) - 1), .ref a]) k_Rd_readLocal rfl rfl ?_
          refine ck_pt k_Rd_readLocal rfl rfl rfl trivial (Nat.le_of_ble_eq_true rfl) rfl ?_
          refine ck_p (L' := [some (.ref a), some (.int v1), some (.int (y5.1 12)), some (.int y6.1), some (va_rf y7.1)]) (st' := [.ref a]) k_Rd_readLocal rfl rfl ?_
          refine ck_p (L' := [some (.ref a), some (.int v1), some (.int (y5.1 12)), some (.int y6.1), some (va_rf y7.1)]) (st' := [.int (y5.1 12), .ref a]) k_Rd_readLocal rfl rfl ?_
          refine ck_pt k_Rd_readLocal rfl rfl rfl trivial (Nat.le_of_ble_eq_true rfl) rfl ?_
          refine ck_nw k_Rd_readLocal rfl rfl rfl rfl rfl rfl ?_
          refine ck_p (L' := [some (.ref a), some (.int v1), some (.int (y5.1 12)), some (.int y6.1), some (va_rf y7.1)]) (st' := [.ref y7.2.2.2.2.2.1, .ref y7.2.2.2.2.2.1]) k_Rd_readLocal rfl rfl ?_
          refine ck_p (L' := [some (.ref a), some (.int v1), some (.int (y5.1 12)), some (.int y6.1), some (va_rf y7.1)]) (st' := [.int 8, .ref y7.2.2.2.2.2.1, .ref y7.2.2.2.2.2.1]) k_Rd_readLocal rfl rfl ?_
          refine ck_p (L' := [some (.ref a), some (.int v1), some (.int (y5.1 12)), some (.int y6.1), some (va_rf y7.1)]) (st' := [.int y6.1, .int 8, .ref y7.2.2.2.2.2.1, .ref y7.2.2.2.2.2.1]) k_Rd_readLocal rfl rfl ?_
          refine ck_p (L' := [some (.ref a), some (.int v1), some (.int (y5.1 12)), some (.int y6.1), some (va_rf y7.1)]) (st' := [va_rf y7.1, .int y6.1, .int 8, .ref y7.2.2.2.2.2.1, .ref y7.2.2.2.2.2.1]) k_Rd_readLocal rfl (by cases y7.1 <;> rfl) ?_
          cases hy8 : sp_Node_init  y7.2.2.2.2.2.1 8 y6.1 y7.1 ((upd (upd y7.2.1 15 ((y7.2.1 15) - 1)) 12 (y5.1 12)), y7.2.2.1, y7.2.2.2.1, (eset y7.2.2.2.2.1 y7.2.2.2.2.2.1 (.inr (2, gx_def gx_kd2))), (y7.2.2.2.2.2.1 + 1), (y7.2.2.2.2.2.2 + 6)) with
          | none =>
            rw [hy8] at hp
            cases hp
          | some y8 =>
            rw [hy8] at hp
            try dsimp only at hp
            refine ck_inV (M' := m_Node_init) (As := [.int 8, .int y6.1, va_rf y7.1]) k_Rd_readLocal rfl rfl rfl rfl rfl rfl (Nat.le_of_ble_eq_true rfl) (c_sp_Node_init  hy8) ?_
            cases hp
            exact ck_ret (v := some (va_rf (some y7.2.2.2.2.2.1))) k_Rd_readLocal rfl rfl trivial rfl ⟨rfl, rfl⟩
def sp_Rd_readAbort (f : ck_S → Option (Option Nat × ck_S)) (v1 : Int32) (v2 : Int32) (σ : ck_S) : Option (Option Nat × ck_S) := (match sp_Rd_readToldSignal   σ with
  | none => none
  | some y1 => (match sp_Rd_readTrapped f 0 y1.2 with
  | none => none
  | some y2 => (if v2 = 0 then (match sp_Rd_newExit  2 (y2.2.1, y2.2.2.1, y2.2.2.2.1, (eset y2.2.2.2.2.1 y2.2.2.2.2.2.1 (.inr (2, gx_def gx_kd2))), (y2.2.2.2.2.2.1 + 1), (y2.2.2.2.2.2.2 + 6)) with
  | none => none
  | some y4 => (match sp_Rd_chain  y2.1 y4.1 y4.2 with
  | none => none
  | some y5 => (match sp_Node_init  y2.2.2.2.2.2.1 9 0 y5.1 y5.2 with
  | none => none
  | some y6 => (match sp_Rd_newWatch  y1.1 v1 (y6.1, y6.2.1, y6.2.2.1, (eset y6.2.2.2.1 y6.2.2.2.2.1 (.inr (2, gx_def gx_kd2))), (y6.2.2.2.2.1 + 1), (y6.2.2.2.2.2 + 6)) with
  | none => none
  | some y7 => (match sp_Rd_chain  (some y2.2.2.2.2.2.1) y7.1 y7.2 with
  | none => none
  | some y8 => (match sp_Node_init  y6.2.2.2.2.1 10 0 y8.1 y8.2 with
  | none => none
  | some y9 => (match sp_Node_init  y9.2.2.2.2.1 6 0 (some y6.2.2.2.2.1) (y9.1, y9.2.1, y9.2.2.1, (eset y9.2.2.2.1 y9.2.2.2.2.1 (.inr (2, gx_def gx_kd2))), (y9.2.2.2.2.1 + 1), (y9.2.2.2.2.2 + 6)) with
  | none => none
  | some y10 => some ((some y9.2.2.2.2.1), y10)))))))) else (match sp_Node_init  y2.2.2.2.2.2.1 5 y1.1 y2.1 (y2.2.1, y2.2.2.1, y2.2.2.2.1, (eset y2.2.2.2.2.1 y2.2.2.2.2.2.1 (.inr (2, gx_def gx_kd2))), (y2.2.2.2.2.2.1 + 1), (y2.2.2.2.2.2.2 + 6)) with
  | none => none
  | some y11 => (match sp_Rd_newExit  2 (y11.1, y11.2.1, y11.2.2.1, (eset y11.2.2.2.1 y11.2.2.2.2.1 (.inr (2, gx_def gx_kd2))), (y11.2.2.2.2.1 + 1), (y11.2.2.2.2.2 + 6)) with
  | none => none
  | some y12 => (match sp_Rd_chain  (some y2.2.2.2.2.2.1) y12.1 y12.2 with
  | none => none
  | some y13 => (match sp_Node_init  y11.2.2.2.2.1 9 0 y13.1 y13.2 with
  | none => none
  | some y14 => (match sp_Rd_newWatch  y1.1 v1 (y14.1, y14.2.1, y14.2.2.1, (eset y14.2.2.2.1 y14.2.2.2.2.1 (.inr (2, gx_def gx_kd2))), (y14.2.2.2.2.1 + 1), (y14.2.2.2.2.2 + 6)) with
  | none => none
  | some y15 => (match sp_Rd_chain  (some y11.2.2.2.2.1) y15.1 y15.2 with
  | none => none
  | some y16 => (match sp_Node_init  y14.2.2.2.2.1 10 0 y16.1 y16.2 with
  | none => none
  | some y17 => (match sp_Node_init  y17.2.2.2.2.1 6 0 (some y14.2.2.2.2.1) (y17.1, y17.2.1, y17.2.2.1, (eset y17.2.2.2.1 y17.2.2.2.2.1 (.inr (2, gx_def gx_kd2))), (y17.2.2.2.2.1 + 1), (y17.2.2.2.2.2 + 6)) with
  | none => none
  | some y18 => some ((some y17.2.2.2.2.1), y18))))))))))))
theorem c_sp_Rd_readAbort (hf : rb_IH l F a A D f) (hD : D ≤ d) {v1 : Int32} {v2 : Int32} {σ : ck_S} {r : Option Nat × ck_S} (hp : sp_Rd_readAbort f v1 v2 σ = some r) : ck_Has l F (d + 5) m_Rd_readAbort rd_K a A [.ref a, .int v1, .int v2] σ (fun w σ' => w = some (va_rf r.1) ∧ σ' = r.2) := by
  refine ck_meth (k := 5) (L := [some (.ref a), some (.int v1), some (.int v2), none, none, none, none, none]) pn_Rd rfl (Nat.le_of_ble_eq_true rfl) ?_
  unfold sp_Rd_readAbort at hp
  refine ck_p (L' := [some (.ref a), some (.int v1), some (.int v2), none, none, none, none, none]) (st' := [.ref a]) k_Rd_readAbort rfl rfl ?_
  cases hy1 : sp_Rd_readToldSignal   σ with
  | none =>
    rw [hy1] at hp
    cases hp
  | some y1 =>
    rw [hy1] at hp
    try dsimp only at hp
    refine ck_ivB (M' := m_Rd_readToldSignal) (As := []) k_Rd_readAbort rfl rfl rfl rfl rfl rfl rfl (Nat.le_of_ble_eq_true rfl) (c_sp_Rd_readToldSignal  hy1) (fun hby1 => ?_)
    refine ck_p (L' := [some (.ref a), some (.int v1), some (.int v2), some (.int y1.1), none, none, none, none]) (st' := []) k_Rd_readAbort rfl rfl ?_
    refine ck_p (L' := [some (.ref a), some (.int v1), some (.int v2), some (.int y1.1), none, none, none, none]) (st' := [.ref a]) k_Rd_readAbort rfl rfl ?_
    refine ck_p (L' := [some (.ref a), some (.int v1), some (.int v2), some (.int y1.1), none, none, none, none]) (st' := [.int 0, .ref a]) k_Rd_readAbort rfl rfl ?_
    cases hy2 : sp_Rd_readTrapped f 0 y1.2 with
    | none =>
      rw [hy2] at hp
      cases hp
    | some y2 =>
      rw [hy2] at hp
      try dsimp only at hp
      refine ck_ivB (M' := m_Rd_readTrapped) (As := [.int 0]) k_Rd_readAbort rfl rfl rfl rfl rfl rfl rfl (Nat.le_of_ble_eq_true rfl) (c_sp_Rd_readTrapped hf (by omega) hy2) (fun hby2 => ?_)
      refine ck_p (L' := [some (.ref a), some (.int v1), some (.int v2), some (.int y1.1), some (va_rf y2.1), none, none, none]) (st' := []) k_Rd_readAbort rfl (by cases y2.1 <;> rfl) ?_
      refine ck_p (L' := [some (.ref a), some (.int v1), some (.int v2), some (.int y1.1), some (va_rf y2.1), none, none, none]) (st' := [.int v2]) k_Rd_readAbort rfl rfl ?_
      refine ck_if k_Rd_readAbort rfl rfl rfl (fun h3 => ?_) (fun h3 => ?_)
      · skip
        rw [if_pos (show v2 = 0 from h3)] at hp
        refine ck_p (L' := [some (.ref a), some (.int v1), some (.int v2), some (.int y1.1), some (va_rf y2.1), none, none, none]) (st' := [va_rf y2.1]) k_Rd_readAbort rfl (by cases y2.1 <;> rfl) ?_
        refine ck_p (L' := [some (.ref a), some (.int v1), some (.int v2), some (.int y1.1), some (va_rf y2.1), some (va_rf y2.1), none, none]) (st' := []) k_Rd_readAbort rfl (by cases y2.1 <;> rfl) ?_
        refine ck_nw k_Rd_readAbort rfl rfl rfl rfl rfl rfl ?_
        refine ck_p (L' := [some (.ref a), some (.int v1), some (.int v2), some (.int y1.1), some (va_rf y2.1), some (va_rf y2.1), none, none]) (st' := [.ref y2.2.2.2.2.2.1, .ref y2.2.2.2.2.2.1]) k_Rd_readAbort rfl rfl ?_
        refine ck_p (L' := [some (.ref a), some (.int v1), some (.int v2), some (.int y1.1), some (va_rf y2.1), some (va_rf y2.1), none, none]) (st' := [.int 9, .ref y2.2.2.2.2.2.1, .ref y2.2.2.2.2.2.1]) k_Rd_readAbort rfl rfl ?_
        refine ck_p (L' := [some (.ref a), some (.int v1), some (.int v2), some (.int y1.1), some (va_rf y2.1), some (va_rf y2.1), none, none]) (st' := [.int 0, .int 9, .ref y2.2.2.2.2.2.1, .ref y2.2.2.2.2.2.1]) k_Rd_readAbort rfl rfl ?_
        refine ck_p (L' := [some (.ref a), some (.int v1), some (.int v2), some (.int y1.1), some (va_rf y2.1), some (va_rf y2.1), none, none]) (st' := [va_rf y2.1, .int 0, .int 9, .ref y2.2.2.2.2.2.1, .ref y2.2.2.2.2.2.1]) k_Rd_readAbort rfl (by cases y2.1 <;> rfl) ?_
        refine ck_p (L' := [some (.ref a), some (.int v1), some (.int v2), some (.int y1.1), some (va_rf y2.1), some (va_rf y2.1), none, none]) (st' := [.int 2, va_rf y2.1, .int 0, .int 9, .ref y2.2.2.2.2.2.1, .ref y2.2.2.2.2.2.1]) k_Rd_readAbort rfl rfl ?_
        cases hy4 : sp_Rd_newExit  2 (y2.2.1, y2.2.2.1, y2.2.2.2.1, (eset y2.2.2.2.2.1 y2.2.2.2.2.2.1 (.inr (2, gx_def gx_kd2))), (y2.2.2.2.2.2.1 + 1), (y2.2.2.2.2.2.2 + 6)) with
        | none =>
          rw [hy4] at hp
          cases hp
        | some y4 =>
          rw [hy4] at hp
          try dsimp only at hp
          refine ck_isB (M' := m_Rd_newExit) (As := [.int 2]) k_Rd_readAbort rfl rfl rfl rfl rfl rfl (by cases y2.1 <;> exact (Nat.le_of_ble_eq_true rfl)) (c_sp_Rd_newExit  hy4) (fun hby4 => ?_)
          cases hy5 : sp_Rd_chain  y2.1 y4.1 y4.2 with
          | none =>
            rw [hy5] at hp
            cases hp
          | some y5 =>
            rw [hy5] at hp
            try dsimp only at hp
            refine ck_isB (M' := m_Rd_chain) (As := [va_rf y2.1, va_rf y4.1]) k_Rd_readAbort rfl rfl rfl rfl rfl rfl (Nat.le_of_ble_eq_true rfl) (c_sp_Rd_chain  hy5) (fun hby5 => ?_)
            cases hy6 : sp_Node_init  y2.2.2.2.2.2.1 9 0 y5.1 y5.2 with
            | none =>
              rw [hy6] at hp
              cases hp
            | some y6 =>
              rw [hy6] at hp
              try dsimp only at hp
              refine ck_inV (M' := m_Node_init) (As := [.int 9, .int 0, va_rf y5.1]) k_Rd_readAbort rfl rfl rfl rfl rfl rfl (Nat.le_of_ble_eq_true rfl) (c_sp_Node_init  hy6) ?_
              refine ck_p (L' := [some (.ref a), some (.int v1), some (.int v2), some (.int y1.1), some (va_rf y2.1), some (va_rf y2.1), some (.ref y2.2.2.2.2.2.1), none]) (st' := []) k_Rd_readAbort rfl (by cases y2.1 <;> rfl) ?_
              refine ck_nw k_Rd_readAbort rfl rfl rfl rfl rfl rfl ?_
              refine ck_p (L' := [some (.ref a), some (.int v1), some (.int v2), some (.int y1.1), some (va_rf y2.1), some (va_rf y2.1), some (.ref y2.2.2.2.2.2.1), none]) (st' := [.ref y6.2.2.2.2.1, .ref y6.2.2.2.2.1]) k_Rd_readAbort rfl rfl ?_
              refine ck_p (L' := [some (.ref a), some (.int v1), some (.int v2), some (.int y1.1), some (va_rf y2.1), some (va_rf y2.1), some (.ref y2.2.2.2.2.2.1), none]) (st' := [.int 10, .ref y6.2.2.2.2.1, .ref y6.2.2.2.2.1]) k_Rd_readAbort rfl rfl ?_
              refine ck_p (L' := [some (.ref a), some (.int v1), some (.int v2), some (.int y1.1), some (va_rf y2.1), some (va_rf y2.1), some (.ref y2.2.2.2.2.2.1), none]) (st' := [.int 0, .int 10, .ref y6.2.2.2.2.1, .ref y6.2.2.2.2.1]) k_Rd_readAbort rfl rfl ?_
              refine ck_p (L' := [some (.ref a), some (.int v1), some (.int v2), some (.int y1.1), some (va_rf y2.1), some (va_rf y2.1), some (.ref y2.2.2.2.2.2.1), none]) (st' := [.ref y2.2.2.2.2.2.1, .int 0, .int 10, .ref y6.2.2.2.2.1, .ref y6.2.2.2.2.1]) k_Rd_readAbort rfl rfl ?_
              refine ck_p (L' := [some (.ref a), some (.int v1), some (.int v2), some (.int y1.1), some (va_rf y2.1), some (va_rf y2.1), some (.ref y2.2.2.2.2.2.1), none]) (st' := [.ref a, .ref y2.2.2.2.2.2.1, .int 0, .int 10, .ref y6.2.2.2.2.1, .ref y6.2.2.2.2.1]) k_Rd_readAbort rfl rfl ?_
              refine ck_p (L' := [some (.ref a), some (.int v1), some (.int v2), some (.int y1.1), some (va_rf y2.1), some (va_rf y2.1), some (.ref y2.2.2.2.2.2.1), none]) (st' := [.int y1.1, .ref a, .ref y2.2.2.2.2.2.1, .int 0, .int 10, .ref y6.2.2.2.2.1, .ref y6.2.2.2.2.1]) k_Rd_readAbort rfl rfl ?_
              refine ck_p (L' := [some (.ref a), some (.int v1), some (.int v2), some (.int y1.1), some (va_rf y2.1), some (va_rf y2.1), some (.ref y2.2.2.2.2.2.1), none]) (st' := [.int v1, .int y1.1, .ref a, .ref y2.2.2.2.2.2.1, .int 0, .int 10, .ref y6.2.2.2.2.1, .ref y6.2.2.2.2.1]) k_Rd_readAbort rfl rfl ?_
              cases hy7 : sp_Rd_newWatch  y1.1 v1 (y6.1, y6.2.1, y6.2.2.1, (eset y6.2.2.2.1 y6.2.2.2.2.1 (.inr (2, gx_def gx_kd2))), (y6.2.2.2.2.1 + 1), (y6.2.2.2.2.2 + 6)) with
              | none =>
                rw [hy7] at hp
                cases hp
              | some y7 =>
                rw [hy7] at hp
                try dsimp only at hp
                refine ck_ivB (M' := m_Rd_newWatch) (As := [.int y1.1, .int v1]) k_Rd_readAbort rfl rfl rfl rfl rfl rfl rfl (Nat.le_of_ble_eq_true rfl) (c_sp_Rd_newWatch  hy7) (fun hby7 => ?_)
                cases hy8 : sp_Rd_chain  (some y2.2.2.2.2.2.1) y7.1 y7.2 with
                | none =>
                  rw [hy8] at hp
                  cases hp
                | some y8 =>
                  rw [hy8] at hp
                  try dsimp only at hp
                  refine ck_isB (M' := m_Rd_chain) (As := [.ref y2.2.2.2.2.2.1, va_rf y7.1]) k_Rd_readAbort rfl rfl rfl rfl rfl rfl (Nat.le_of_ble_eq_true rfl) (c_sp_Rd_chain  hy8) (fun hby8 => ?_)
                  cases hy9 : sp_Node_init  y6.2.2.2.2.1 10 0 y8.1 y8.2 with
                  | none =>
                    rw [hy9] at hp
                    cases hp
                  | some y9 =>
                    rw [hy9] at hp
                    try dsimp only at hp
                    refine ck_inV (M' := m_Node_init) (As := [.int 10, .int 0, va_rf y8.1]) k_Rd_readAbort rfl rfl rfl rfl rfl rfl (Nat.le_of_ble_eq_true rfl) (c_sp_Node_init  hy9) ?_
                    refine ck_p (L' := [some (.ref a), some (.int v1), some (.int v2), some (.int y1.1), some (va_rf y2.1), some (va_rf y2.1), some (.ref y2.2.2.2.2.2.1), some (.ref y6.2.2.2.2.1)]) (st' := []) k_Rd_readAbort rfl rfl ?_
                    refine ck_nw k_Rd_readAbort rfl rfl rfl rfl rfl rfl ?_
                    refine ck_p (L' := [some (.ref a), some (.int v1), some (.int v2), some (.int y1.1), some (va_rf y2.1), some (va_rf y2.1), some (.ref y2.2.2.2.2.2.1), some (.ref y6.2.2.2.2.1)]) (st' := [.ref y9.2.2.2.2.1, .ref y9.2.2.2.2.1]) k_Rd_readAbort rfl rfl ?_
                    refine ck_p (L' := [some (.ref a), some (.int v1), some (.int v2), some (.int y1.1), some (va_rf y2.1), some (va_rf y2.1), some (.ref y2.2.2.2.2.2.1), some (.ref y6.2.2.2.2.1)]) (st' := [.int 6, .ref y9.2.2.2.2.1, .ref y9.2.2.2.2.1]) k_Rd_readAbort rfl rfl ?_
                    refine ck_p (L' := [some (.ref a), some (.int v1), some (.int v2), some (.int y1.1), some (va_rf y2.1), some (va_rf y2.1), some (.ref y2.2.2.2.2.2.1), some (.ref y6.2.2.2.2.1)]) (st' := [.int 0, .int 6, .ref y9.2.2.2.2.1, .ref y9.2.2.2.2.1]) k_Rd_readAbort rfl rfl ?_
                    refine ck_p (L' := [some (.ref a), some (.int v1), some (.int v2), some (.int y1.1), some (va_rf y2.1), some (va_rf y2.1), some (.ref y2.2.2.2.2.2.1), some (.ref y6.2.2.2.2.1)]) (st' := [.ref y6.2.2.2.2.1, .int 0, .int 6, .ref y9.2.2.2.2.1, .ref y9.2.2.2.2.1]) k_Rd_readAbort rfl rfl ?_
                    cases hy10 : sp_Node_init  y9.2.2.2.2.1 6 0 (some y6.2.2.2.2.1) (y9.1, y9.2.1, y9.2.2.1, (eset y9.2.2.2.1 y9.2.2.2.2.1 (.inr (2, gx_def gx_kd2))), (y9.2.2.2.2.1 + 1), (y9.2.2.2.2.2 + 6)) with
                    | none =>
                      rw [hy10] at hp
                      cases hp
                    | some y10 =>
                      rw [hy10] at hp
                      try dsimp only at hp
                      refine ck_inV (M' := m_Node_init) (As := [.int 6, .int 0, .ref y6.2.2.2.2.1]) k_Rd_readAbort rfl rfl rfl rfl rfl rfl (Nat.le_of_ble_eq_true rfl) (c_sp_Node_init  hy10) ?_
                      cases hp
                      exact ck_ret (v := some (va_rf (some y9.2.2.2.2.1))) k_Rd_readAbort rfl rfl trivial rfl ⟨rfl, rfl⟩
      · skip
        rw [if_neg (show ¬ (v2 = 0) from h3)] at hp
        refine ck_nw k_Rd_readAbort rfl rfl rfl rfl rfl rfl ?_
        refine ck_p (L' := [some (.ref a), some (.int v1), some (.int v2), some (.int y1.1), some (va_rf y2.1), none, none, none]) (st' := [.ref y2.2.2.2.2.2.1, .ref y2.2.2.2.2.2.1]) k_Rd_readAbort rfl rfl ?_
        refine ck_p (L' := [some (.ref a), some (.int v1), some (.int v2), some (.int y1.1), some (va_rf y2.1), none, none, none]) (st' := [.int 5, .ref y2.2.2.2.2.2.1, .ref y2.2.2.2.2.2.1]) k_Rd_readAbort rfl rfl ?_
        refine ck_p (L' := [some (.ref a), some (.int v1), some (.int v2), some (.int y1.1), some (va_rf y2.1), none, none, none]) (st' := [.int y1.1, .int 5, .ref y2.2.2.2.2.2.1, .ref y2.2.2.2.2.2.1]) k_Rd_readAbort rfl rfl ?_
        refine ck_p (L' := [some (.ref a), some (.int v1), some (.int v2), some (.int y1.1), some (va_rf y2.1), none, none, none]) (st' := [va_rf y2.1, .int y1.1, .int 5, .ref y2.2.2.2.2.2.1, .ref y2.2.2.2.2.2.1]) k_Rd_readAbort rfl (by cases y2.1 <;> rfl) ?_
        cases hy11 : sp_Node_init  y2.2.2.2.2.2.1 5 y1.1 y2.1 (y2.2.1, y2.2.2.1, y2.2.2.2.1, (eset y2.2.2.2.2.1 y2.2.2.2.2.2.1 (.inr (2, gx_def gx_kd2))), (y2.2.2.2.2.2.1 + 1), (y2.2.2.2.2.2.2 + 6)) with
        | none =>
          rw [hy11] at hp
          cases hp
        | some y11 =>
          rw [hy11] at hp
          try dsimp only at hp
          refine ck_inV (M' := m_Node_init) (As := [.int 5, .int y1.1, va_rf y2.1]) k_Rd_readAbort rfl rfl rfl rfl rfl rfl (Nat.le_of_ble_eq_true rfl) (c_sp_Node_init  hy11) ?_
          refine ck_j k_Rd_readAbort rfl rfl ?_
          refine ck_p (L' := [some (.ref a), some (.int v1), some (.int v2), some (.int y1.1), some (va_rf y2.1), some (.ref y2.2.2.2.2.2.1), none, none]) (st' := []) k_Rd_readAbort rfl (by cases y2.1 <;> rfl) ?_
          refine ck_nw k_Rd_readAbort rfl rfl rfl rfl rfl rfl ?_
          refine ck_p (L' := [some (.ref a), some (.int v1), some (.int v2), some (.int y1.1), some (va_rf y2.1), some (.ref y2.2.2.2.2.2.1), none, none]) (st' := [.ref y11.2.2.2.2.1, .ref y11.2.2.2.2.1]) k_Rd_readAbort rfl rfl ?_
          refine ck_p (L' := [some (.ref a), some (.int v1), some (.int v2), some (.int y1.1), some (va_rf y2.1), some (.ref y2.2.2.2.2.2.1), none, none]) (st' := [.int 9, .ref y11.2.2.2.2.1, .ref y11.2.2.2.2.1]) k_Rd_readAbort rfl rfl ?_
          refine ck_p (L' := [some (.ref a), some (.int v1), some (.int v2), some (.int y1.1), some (va_rf y2.1), some (.ref y2.2.2.2.2.2.1), none, none]) (st' := [.int 0, .int 9, .ref y11.2.2.2.2.1, .ref y11.2.2.2.2.1]) k_Rd_readAbort rfl rfl ?_
          refine ck_p (L' := [some (.ref a), some (.int v1), some (.int v2), some (.int y1.1), some (va_rf y2.1), some (.ref y2.2.2.2.2.2.1), none, none]) (st' := [.ref y2.2.2.2.2.2.1, .int 0, .int 9, .ref y11.2.2.2.2.1, .ref y11.2.2.2.2.1]) k_Rd_readAbort rfl rfl ?_
          refine ck_p (L' := [some (.ref a), some (.int v1), some (.int v2), some (.int y1.1), some (va_rf y2.1), some (.ref y2.2.2.2.2.2.1), none, none]) (st' := [.int 2, .ref y2.2.2.2.2.2.1, .int 0, .int 9, .ref y11.2.2.2.2.1, .ref y11.2.2.2.2.1]) k_Rd_readAbort rfl rfl ?_
          cases hy12 : sp_Rd_newExit  2 (y11.1, y11.2.1, y11.2.2.1, (eset y11.2.2.2.1 y11.2.2.2.2.1 (.inr (2, gx_def gx_kd2))), (y11.2.2.2.2.1 + 1), (y11.2.2.2.2.2 + 6)) with
          | none =>
            rw [hy12] at hp
            cases hp
          | some y12 =>
            rw [hy12] at hp
            try dsimp only at hp
            refine ck_isB (M' := m_Rd_newExit) (As := [.int 2]) k_Rd_readAbort rfl rfl rfl rfl rfl rfl (Nat.le_of_ble_eq_true rfl) (c_sp_Rd_newExit  hy12) (fun hby12 => ?_)
            cases hy13 : sp_Rd_chain  (some y2.2.2.2.2.2.1) y12.1 y12.2 with
            | none =>
              rw [hy13] at hp
              cases hp
            | some y13 =>
              rw [hy13] at hp
              try dsimp only at hp
              refine ck_isB (M' := m_Rd_chain) (As := [.ref y2.2.2.2.2.2.1, va_rf y12.1]) k_Rd_readAbort rfl rfl rfl rfl rfl rfl (Nat.le_of_ble_eq_true rfl) (c_sp_Rd_chain  hy13) (fun hby13 => ?_)
              cases hy14 : sp_Node_init  y11.2.2.2.2.1 9 0 y13.1 y13.2 with
              | none =>
                rw [hy14] at hp
                cases hp
              | some y14 =>
                rw [hy14] at hp
                try dsimp only at hp
                refine ck_inV (M' := m_Node_init) (As := [.int 9, .int 0, va_rf y13.1]) k_Rd_readAbort rfl rfl rfl rfl rfl rfl (Nat.le_of_ble_eq_true rfl) (c_sp_Node_init  hy14) ?_
                refine ck_p (L' := [some (.ref a), some (.int v1), some (.int v2), some (.int y1.1), some (va_rf y2.1), some (.ref y2.2.2.2.2.2.1), some (.ref y11.2.2.2.2.1), none]) (st' := []) k_Rd_readAbort rfl rfl ?_
                refine ck_nw k_Rd_readAbort rfl rfl rfl rfl rfl rfl ?_
                refine ck_p (L' := [some (.ref a), some (.int v1), some (.int v2), some (.int y1.1), some (va_rf y2.1), some (.ref y2.2.2.2.2.2.1), some (.ref y11.2.2.2.2.1), none]) (st' := [.ref y14.2.2.2.2.1, .ref y14.2.2.2.2.1]) k_Rd_readAbort rfl rfl ?_
                refine ck_p (L' := [some (.ref a), some (.int v1), some (.int v2), some (.int y1.1), some (va_rf y2.1), some (.ref y2.2.2.2.2.2.1), some (.ref y11.2.2.2.2.1), none]) (st' := [.int 10, .ref y14.2.2.2.2.1, .ref y14.2.2.2.2.1]) k_Rd_readAbort rfl rfl ?_
                refine ck_p (L' := [some (.ref a), some (.int v1), some (.int v2), some (.int y1.1), some (va_rf y2.1), some (.ref y2.2.2.2.2.2.1), some (.ref y11.2.2.2.2.1), none]) (st' := [.int 0, .int 10, .ref y14.2.2.2.2.1, .ref y14.2.2.2.2.1]) k_Rd_readAbort rfl rfl ?_
                refine ck_p (L' := [some (.ref a), some (.int v1), some (.int v2), some (.int y1.1), some (va_rf y2.1), some (.ref y2.2.2.2.2.2.1), some (.ref y11.2.2.2.2.1), none]) (st' := [.ref y11.2.2.2.2.1, .int 0, .int 10, .ref y14.2.2.2.2.1, .ref y14.2.2.2.2.1]) k_Rd_readAbort rfl rfl ?_
                refine ck_p (L' := [some (.ref a), some (.int v1), some (.int v2), some (.int y1.1), some (va_rf y2.1), some (.ref y2.2.2.2.2.2.1), some (.ref y11.2.2.2.2.1), none]) (st' := [.ref a, .ref y11.2.2.2.2.1, .int 0, .int 10, .ref y14.2.2.2.2.1, .ref y14.2.2.2.2.1]) k_Rd_readAbort rfl rfl ?_
                refine ck_p (L' := [some (.ref a), some (.int v1), some (.int v2), some (.int y1.1), some (va_rf y2.1), some (.ref y2.2.2.2.2.2.1), some (.ref y11.2.2.2.2.1), none]) (st' := [.int y1.1, .ref a, .ref y11.2.2.2.2.1, .int 0, .int 10, .ref y14.2.2.2.2.1, .ref y14.2.2.2.2.1]) k_Rd_readAbort rfl rfl ?_
                refine ck_p (L' := [some (.ref a), some (.int v1), some (.int v2), some (.int y1.1), some (va_rf y2.1), some (.ref y2.2.2.2.2.2.1), some (.ref y11.2.2.2.2.1), none]) (st' := [.int v1, .int y1.1, .ref a, .ref y11.2.2.2.2.1, .int 0, .int 10, .ref y14.2.2.2.2.1, .ref y14.2.2.2.2.1]) k_Rd_readAbort rfl rfl ?_
                cases hy15 : sp_Rd_newWatch  y1.1 v1 (y14.1, y14.2.1, y14.2.2.1, (eset y14.2.2.2.1 y14.2.2.2.2.1 (.inr (2, gx_def gx_kd2))), (y14.2.2.2.2.1 + 1), (y14.2.2.2.2.2 + 6)) with
                | none =>
                  rw [hy15] at hp
                  cases hp
                | some y15 =>
                  rw [hy15] at hp
                  try dsimp only at hp
                  refine ck_ivB (M' := m_Rd_newWatch) (As := [.int y1.1, .int v1]) k_Rd_readAbort rfl rfl rfl rfl rfl rfl rfl (Nat.le_of_ble_eq_true rfl) (c_sp_Rd_newWatch  hy15) (fun hby15 => ?_)
                  cases hy16 : sp_Rd_chain  (some y11.2.2.2.2.1) y15.1 y15.2 with
                  | none =>
                    rw [hy16] at hp
                    cases hp
                  | some y16 =>
                    rw [hy16] at hp
                    try dsimp only at hp
                    refine ck_isB (M' := m_Rd_chain) (As := [.ref y11.2.2.2.2.1, va_rf y15.1]) k_Rd_readAbort rfl rfl rfl rfl rfl rfl (Nat.le_of_ble_eq_true rfl) (c_sp_Rd_chain  hy16) (fun hby16 => ?_)
                    cases hy17 : sp_Node_init  y14.2.2.2.2.1 10 0 y16.1 y16.2 with
                    | none =>
                      rw [hy17] at hp
                      cases hp
                    | some y17 =>
                      rw [hy17] at hp
                      try dsimp only at hp
                      refine ck_inV (M' := m_Node_init) (As := [.int 10, .int 0, va_rf y16.1]) k_Rd_readAbort rfl rfl rfl rfl rfl rfl (Nat.le_of_ble_eq_true rfl) (c_sp_Node_init  hy17) ?_
                      refine ck_p (L' := [some (.ref a), some (.int v1), some (.int v2), some (.int y1.1), some (va_rf y2.1), some (.ref y2.2.2.2.2.2.1), some (.ref y11.2.2.2.2.1), some (.ref y14.2.2.2.2.1)]) (st' := []) k_Rd_readAbort rfl rfl ?_
                      refine ck_nw k_Rd_readAbort rfl rfl rfl rfl rfl rfl ?_
                      refine ck_p (L' := [some (.ref a), some (.int v1), some (.int v2), some (.int y1.1), some (va_rf y2.1), some (.ref y2.2.2.2.2.2.1), some (.ref y11.2.2.2.2.1), some (.ref y14.2.2.2.2.1)]) (st' := [.ref y17.2.2.2.2.1, .ref y17.2.2.2.2.1]) k_Rd_readAbort rfl rfl ?_
                      refine ck_p (L' := [some (.ref a), some (.int v1), some (.int v2), some (.int y1.1), some (va_rf y2.1), some (.ref y2.2.2.2.2.2.1), some (.ref y11.2.2.2.2.1), some (.ref y14.2.2.2.2.1)]) (st' := [.int 6, .ref y17.2.2.2.2.1, .ref y17.2.2.2.2.1]) k_Rd_readAbort rfl rfl ?_
                      refine ck_p (L' := [some (.ref a), some (.int v1), some (.int v2), some (.int y1.1), some (va_rf y2.1), some (.ref y2.2.2.2.2.2.1), some (.ref y11.2.2.2.2.1), some (.ref y14.2.2.2.2.1)]) (st' := [.int 0, .int 6, .ref y17.2.2.2.2.1, .ref y17.2.2.2.2.1]) k_Rd_readAbort rfl rfl ?_
                      refine ck_p (L' := [some (.ref a), some (.int v1), some (.int v2), some (.int y1.1), some (va_rf y2.1), some (.ref y2.2.2.2.2.2.1), some (.ref y11.2.2.2.2.1), some (.ref y14.2.2.2.2.1)]) (st' := [.ref y14.2.2.2.2.1, .int 0, .int 6, .ref y17.2.2.2.2.1, .ref y17.2.2.2.2.1]) k_Rd_readAbort rfl rfl ?_
                      cases hy18 : sp_Node_init  y17.2.2.2.2.1 6 0 (some y14.2.2.2.2.1) (y17.1, y17.2.1, y17.2.2.1, (eset y17.2.2.2.1 y17.2.2.2.2.1 (.inr (2, gx_def gx_kd2))), (y17.2.2.2.2.1 + 1), (y17.2.2.2.2.2 + 6)) with
                      | none =>
                        rw [hy18] at hp
                        cases hp
                      | some y18 =>
                        rw [hy18] at hp
                        try dsimp only at hp
                        refine ck_inV (M' := m_Node_init) (As := [.int 6, .int 0, .ref y14.2.2.2.2.1]) k_Rd_readAbort rfl rfl rfl rfl rfl rfl (Nat.le_of_ble_eq_true rfl) (c_sp_Node_init  hy18) ?_
                        cases hp
                        exact ck_ret (v := some (va_rf (some y17.2.2.2.2.1))) k_Rd_readAbort rfl rfl trivial rfl ⟨rfl, rfl⟩
def sp_Rd_readUnit (f : ck_S → Option (Option Nat × ck_S))  (σ : ck_S) : Option (Option Nat × ck_S) := (match sp_Rd_takeAny   σ with
  | none => none
  | some y1 => (if y1.1 = 33 then (match sp_Rd_readEmittedSignal   y1.2 with
  | none => none
  | some y3 => (match sp_Rd_newEmit  y3.1 y3.2 with
  | none => none
  | some y4 => some (y4.1, y4.2))) else (if y1.1 = 35 then (match sp_Rd_readSuspend f  y1.2 with
  | none => none
  | some y6 => some (y6.1, y6.2)) else (if y1.1 = 36 then (match sp_Rd_takeBetween  65 90 (y1.2.1, y1.2.2.1, y1.2.2.2.1, (eset y1.2.2.2.2.1 y1.2.2.2.2.2.1 (.inr (2, gx_def gx_kd2))), (y1.2.2.2.2.2.1 + 1), (y1.2.2.2.2.2.2 + 6)) with
  | none => none
  | some y8 => (match sp_Rd_readTrapped f y8.1 y8.2 with
  | none => none
  | some y9 => (match sp_Node_init  y1.2.2.2.2.2.1 6 0 y9.1 y9.2 with
  | none => none
  | some y10 => some ((some y1.2.2.2.2.2.1), y10)))) else (if y1.1 = 37 then (match sp_Rd_readAbort f (σ.1 8) 1 y1.2 with
  | none => none
  | some y12 => some (y12.1, y12.2)) else (if y1.1 = 38 then (match sp_Rd_readToldSignal   (y1.2.1, y1.2.2.1, y1.2.2.2.1, (eset y1.2.2.2.2.1 y1.2.2.2.2.2.1 (.inr (2, gx_def gx_kd2))), (y1.2.2.2.2.2.1 + 1), (y1.2.2.2.2.2.2 + 6)) with
  | none => none
  | some y14 => (match sp_Rd_newWatch  y14.1 (σ.1 8) y14.2 with
  | none => none
  | some y15 => (match sp_Node_init  y1.2.2.2.2.2.1 6 0 y15.1 y15.2 with
  | none => none
  | some y16 => some ((some y1.2.2.2.2.2.1), y16)))) else (if y1.1 = 42 then (match sp_Rd_readLoop f (σ.1 8) y1.2 with
  | none => none
  | some y18 => some (y18.1, y18.2)) else (if y1.1 = 46 then (match sp_Rd_readExit   y1.2 with
  | none => none
  | some y20 => some (y20.1, y20.2)) else (if y1.1 = 48 then (match sp_Rd_nothing   y1.2 with
  | none => none
  | some y22 => some (y22.1, y22.2)) else (if y1.1 = 49 then (match sp_Rd_newPause  (σ.1 8) y1.2 with
  | none => none
  | some y24 => some (y24.1, y24.2)) else (if y1.1 = 63 then (match sp_Rd_readAsk f  y1.2 with
  | none => none
  | some y26 => some (y26.1, y26.2)) else (if y1.1 = 64 then (match sp_Rd_readLocal f (σ.1 8) y1.2 with
  | none => none
  | some y28 => some (y28.1, y28.2)) else (if y1.1 = 94 then (match sp_Rd_readEmittedSignal   y1.2 with
  | none => none
  | some y30 => (match sp_Rd_newSustain  y30.1 (σ.1 8) y30.2 with
  | none => none
  | some y31 => some (y31.1, y31.2))) else (if y1.1 = 126 then (match sp_Rd_readAbort f (σ.1 8) 0 y1.2 with
  | none => none
  | some y33 => some (y33.1, y33.2)) else (match sp_Rd_peek   ((upd y1.2.1 8 (σ.1 8)), y1.2.2.1, y1.2.2.2.1, y1.2.2.2.2.1, y1.2.2.2.2.2.1, y1.2.2.2.2.2.2) with
  | none => none
  | some y34 => (if y34.1 = 40 then (match sp_Rd_readBody f  y34.2 with
  | none => none
  | some y37 => some (y37.1, y37.2)) else (match sp_Rd_readNoUnit   y34.2 with
  | none => none
  | some y36 => some (y36.1, y36.2))))))))))))))))))
theorem c_sp_Rd_readUnit (hf : rb_IH l F a A D f) (hD : D ≤ d)  {σ : ck_S} {r : Option Nat × ck_S} (hp : sp_Rd_readUnit f  σ = some r) : ck_Has l F (d + 6) m_Rd_readUnit rd_K a A [.ref a] σ (fun w σ' => w = some (va_rf r.1) ∧ σ' = r.2) := by
  refine ck_meth (k := 1) (L := [some (.ref a), none]) pn_Rd rfl (Nat.le_of_ble_eq_true rfl) ?_
  unfold sp_Rd_readUnit at hp
  refine ck_p (L' := [some (.ref a), none]) (st' := [.ref a]) k_Rd_readUnit rfl rfl ?_
  refine ck_g k_Rd_readUnit rfl rfl rfl rfl ?_
  refine ck_p (L' := [some (.ref a), some (.int (σ.1 8))]) (st' := []) k_Rd_readUnit rfl rfl ?_
  refine ck_p (L' := [some (.ref a), some (.int (σ.1 8))]) (st' := [.ref a]) k_Rd_readUnit rfl rfl ?_
  cases hy1 : sp_Rd_takeAny   σ with
  | none =>
    rw [hy1] at hp
    cases hp
  | some y1 =>
    rw [hy1] at hp
    try dsimp only at hp
    refine ck_ivB (M' := m_Rd_takeAny) (As := []) k_Rd_readUnit rfl rfl rfl rfl rfl rfl rfl (Nat.le_of_ble_eq_true rfl) (c_sp_Rd_takeAny  hy1) (fun hby1 => ?_)
    by_cases h2 : y1.1 = 33
    · rw [if_pos h2] at hp
      refine ck_lJ (tgt := 134) k_Rd_readUnit rfl rfl (by decide) h2 rfl rfl ?_
      refine ck_p (L' := [some (.ref a), some (.int (σ.1 8))]) (st' := [.ref a]) k_Rd_readUnit rfl rfl ?_
      cases hy3 : sp_Rd_readEmittedSignal   y1.2 with
      | none =>
        rw [hy3] at hp
        cases hp
      | some y3 =>
        rw [hy3] at hp
        try dsimp only at hp
        refine ck_ivB (M' := m_Rd_readEmittedSignal) (As := []) k_Rd_readUnit rfl rfl rfl rfl rfl rfl rfl (Nat.le_of_ble_eq_true rfl) (c_sp_Rd_readEmittedSignal  hy3) (fun hby3 => ?_)
        cases hy4 : sp_Rd_newEmit  y3.1 y3.2 with
        | none =>
          rw [hy4] at hp
          cases hp
        | some y4 =>
          rw [hy4] at hp
          try dsimp only at hp
          refine ck_isB (M' := m_Rd_newEmit) (As := [.int y3.1]) k_Rd_readUnit rfl rfl rfl rfl rfl rfl (Nat.le_of_ble_eq_true rfl) (c_sp_Rd_newEmit  hy4) (fun hby4 => ?_)
          cases hp
          exact ck_ret (v := some (va_rf y4.1)) k_Rd_readUnit rfl rfl (by cases y4.1 <;> exact trivial) rfl ⟨rfl, rfl⟩
    · rw [if_neg h2] at hp
      by_cases h5 : y1.1 = 35
      · rw [if_pos h5] at hp
        refine ck_lJ (tgt := 153) k_Rd_readUnit rfl rfl (by decide) h5 rfl rfl ?_
        refine ck_p (L' := [some (.ref a), some (.int (σ.1 8))]) (st' := [.ref a]) k_Rd_readUnit rfl rfl ?_
        cases hy6 : sp_Rd_readSuspend f  y1.2 with
        | none =>
          rw [hy6] at hp
          cases hp
        | some y6 =>
          rw [hy6] at hp
          try dsimp only at hp
          refine ck_ivB (M' := m_Rd_readSuspend) (As := []) k_Rd_readUnit rfl rfl rfl rfl rfl rfl rfl (Nat.le_of_ble_eq_true rfl) (c_sp_Rd_readSuspend hf (by omega) hy6) (fun hby6 => ?_)
          cases hp
          exact ck_ret (v := some (va_rf y6.1)) k_Rd_readUnit rfl rfl (by cases y6.1 <;> exact trivial) rfl ⟨rfl, rfl⟩
      · rw [if_neg h5] at hp
        by_cases h7 : y1.1 = 36
        · rw [if_pos h7] at hp
          refine ck_lJ (tgt := 158) k_Rd_readUnit rfl rfl (by decide) h7 rfl rfl ?_
          refine ck_nw k_Rd_readUnit rfl rfl rfl rfl rfl rfl ?_
          refine ck_p (L' := [some (.ref a), some (.int (σ.1 8))]) (st' := [.ref y1.2.2.2.2.2.1, .ref y1.2.2.2.2.2.1]) k_Rd_readUnit rfl rfl ?_
          refine ck_p (L' := [some (.ref a), some (.int (σ.1 8))]) (st' := [.int 6, .ref y1.2.2.2.2.2.1, .ref y1.2.2.2.2.2.1]) k_Rd_readUnit rfl rfl ?_
          refine ck_p (L' := [some (.ref a), some (.int (σ.1 8))]) (st' := [.int 0, .int 6, .ref y1.2.2.2.2.2.1, .ref y1.2.2.2.2.2.1]) k_Rd_readUnit rfl rfl ?_
          refine ck_p (L' := [some (.ref a), some (.int (σ.1 8))]) (st' := [.ref a, .int 0, .int 6, .ref y1.2.2.2.2.2.1, .ref y1.2.2.2.2.2.1]) k_Rd_readUnit rfl rfl ?_
          refine ck_p (L' := [some (.ref a), some (.int (σ.1 8))]) (st' := [.ref a, .ref a, .int 0, .int 6, .ref y1.2.2.2.2.2.1, .ref y1.2.2.2.2.2.1]) k_Rd_readUnit rfl rfl ?_
          refine ck_p (L' := [some (.ref a), some (.int (σ.1 8))]) (st' := [.int 65, .ref a, .ref a, .int 0, .int 6, .ref y1.2.2.2.2.2.1, .ref y1.2.2.2.2.2.1]) k_Rd_readUnit rfl rfl ?_
          refine ck_p (L' := [some (.ref a), some (.int (σ.1 8))]) (st' := [.int 90, .int 65, .ref a, .ref a, .int 0, .int 6, .ref y1.2.2.2.2.2.1, .ref y1.2.2.2.2.2.1]) k_Rd_readUnit rfl rfl ?_
          cases hy8 : sp_Rd_takeBetween  65 90 (y1.2.1, y1.2.2.1, y1.2.2.2.1, (eset y1.2.2.2.2.1 y1.2.2.2.2.2.1 (.inr (2, gx_def gx_kd2))), (y1.2.2.2.2.2.1 + 1), (y1.2.2.2.2.2.2 + 6)) with
          | none =>
            rw [hy8] at hp
            cases hp
          | some y8 =>
            rw [hy8] at hp
            try dsimp only at hp
            refine ck_ivB (M' := m_Rd_takeBetween) (As := [.int 65, .int 90]) k_Rd_readUnit rfl rfl rfl rfl rfl rfl rfl (Nat.le_of_ble_eq_true rfl) (c_sp_Rd_takeBetween  hy8) (fun hby8 => ?_)
            cases hy9 : sp_Rd_readTrapped f y8.1 y8.2 with
            | none =>
              rw [hy9] at hp
              cases hp
            | some y9 =>
              rw [hy9] at hp
              try dsimp only at hp
              refine ck_ivB (M' := m_Rd_readTrapped) (As := [.int y8.1]) k_Rd_readUnit rfl rfl rfl rfl rfl rfl rfl (Nat.le_of_ble_eq_true rfl) (c_sp_Rd_readTrapped hf (by omega) hy9) (fun hby9 => ?_)
              cases hy10 : sp_Node_init  y1.2.2.2.2.2.1 6 0 y9.1 y9.2 with
              | none =>
                rw [hy10] at hp
                cases hp
              | some y10 =>
                rw [hy10] at hp
                try dsimp only at hp
                refine ck_inV (M' := m_Node_init) (As := [.int 6, .int 0, va_rf y9.1]) k_Rd_readUnit rfl rfl rfl rfl rfl rfl (Nat.le_of_ble_eq_true rfl) (c_sp_Node_init  hy10) ?_
                cases hp
                exact ck_ret (v := some (va_rf (some y1.2.2.2.2.2.1))) k_Rd_readUnit rfl rfl trivial rfl ⟨rfl, rfl⟩
        · rw [if_neg h7] at hp
          by_cases h11 : y1.1 = 37
          · rw [if_pos h11] at hp
            refine ck_lJ (tgt := 222) k_Rd_readUnit rfl rfl (by decide) h11 rfl rfl ?_
            refine ck_p (L' := [some (.ref a), some (.int (σ.1 8))]) (st' := [.ref a]) k_Rd_readUnit rfl rfl ?_
            refine ck_p (L' := [some (.ref a), some (.int (σ.1 8))]) (st' := [.int (σ.1 8), .ref a]) k_Rd_readUnit rfl rfl ?_
            refine ck_p (L' := [some (.ref a), some (.int (σ.1 8))]) (st' := [.int 1, .int (σ.1 8), .ref a]) k_Rd_readUnit rfl rfl ?_
            cases hy12 : sp_Rd_readAbort f (σ.1 8) 1 y1.2 with
            | none =>
              rw [hy12] at hp
              cases hp
            | some y12 =>
              rw [hy12] at hp
              try dsimp only at hp
              refine ck_ivB (M' := m_Rd_readAbort) (As := [.int (σ.1 8), .int 1]) k_Rd_readUnit rfl rfl rfl rfl rfl rfl rfl (Nat.le_of_ble_eq_true rfl) (c_sp_Rd_readAbort hf (by omega) hy12) (fun hby12 => ?_)
              cases hp
              exact ck_ret (v := some (va_rf y12.1)) k_Rd_readUnit rfl rfl (by cases y12.1 <;> exact trivial) rfl ⟨rfl, rfl⟩
          · rw [if_neg h11] at hp
            by_cases h13 : y1.1 = 38
            · rw [if_pos h13] at hp
              refine ck_lJ (tgt := 192) k_Rd_readUnit rfl rfl (by decide) h13 rfl rfl ?_
              refine ck_nw k_Rd_readUnit rfl rfl rfl rfl rfl rfl ?_
              refine ck_p (L' := [some (.ref a), some (.int (σ.1 8))]) (st' := [.ref y1.2.2.2.2.2.1, .ref y1.2.2.2.2.2.1]) k_Rd_readUnit rfl rfl ?_
              refine ck_p (L' := [some (.ref a), some (.int (σ.1 8))]) (st' := [.int 6, .ref y1.2.2.2.2.2.1, .ref y1.2.2.2.2.2.1]) k_Rd_readUnit rfl rfl ?_
              refine ck_p (L' := [some (.ref a), some (.int (σ.1 8))]) (st' := [.int 0, .int 6, .ref y1.2.2.2.2.2.1, .ref y1.2.2.2.2.2.1]) k_Rd_readUnit rfl rfl ?_
              refine ck_p (L' := [some (.ref a), some (.int (σ.1 8))]) (st' := [.ref a, .int 0, .int 6, .ref y1.2.2.2.2.2.1, .ref y1.2.2.2.2.2.1]) k_Rd_readUnit rfl rfl ?_
              refine ck_p (L' := [some (.ref a), some (.int (σ.1 8))]) (st' := [.ref a, .ref a, .int 0, .int 6, .ref y1.2.2.2.2.2.1, .ref y1.2.2.2.2.2.1]) k_Rd_readUnit rfl rfl ?_
              cases hy14 : sp_Rd_readToldSignal   (y1.2.1, y1.2.2.1, y1.2.2.2.1, (eset y1.2.2.2.2.1 y1.2.2.2.2.2.1 (.inr (2, gx_def gx_kd2))), (y1.2.2.2.2.2.1 + 1), (y1.2.2.2.2.2.2 + 6)) with
              | none =>
                rw [hy14] at hp
                cases hp
              | some y14 =>
                rw [hy14] at hp
                try dsimp only at hp
                refine ck_ivB (M' := m_Rd_readToldSignal) (As := []) k_Rd_readUnit rfl rfl rfl rfl rfl rfl rfl (Nat.le_of_ble_eq_true rfl) (c_sp_Rd_readToldSignal  hy14) (fun hby14 => ?_)
                refine ck_p (L' := [some (.ref a), some (.int (σ.1 8))]) (st' := [.int (σ.1 8), .int y14.1, .ref a, .int 0, .int 6, .ref y1.2.2.2.2.2.1, .ref y1.2.2.2.2.2.1]) k_Rd_readUnit rfl rfl ?_
                cases hy15 : sp_Rd_newWatch  y14.1 (σ.1 8) y14.2 with
                | none =>
                  rw [hy15] at hp
                  cases hp
                | some y15 =>
                  rw [hy15] at hp
                  try dsimp only at hp
                  refine ck_ivB (M' := m_Rd_newWatch) (As := [.int y14.1, .int (σ.1 8)]) k_Rd_readUnit rfl rfl rfl rfl rfl rfl rfl (Nat.le_of_ble_eq_true rfl) (c_sp_Rd_newWatch  hy15) (fun hby15 => ?_)
                  cases hy16 : sp_Node_init  y1.2.2.2.2.2.1 6 0 y15.1 y15.2 with
                  | none =>
                    rw [hy16] at hp
                    cases hp
                  | some y16 =>
                    rw [hy16] at hp
                    try dsimp only at hp
                    refine ck_inV (M' := m_Node_init) (As := [.int 6, .int 0, va_rf y15.1]) k_Rd_readUnit rfl rfl rfl rfl rfl rfl (Nat.le_of_ble_eq_true rfl) (c_sp_Node_init  hy16) ?_
                    cases hp
                    exact ck_ret (v := some (va_rf (some y1.2.2.2.2.2.1))) k_Rd_readUnit rfl rfl trivial rfl ⟨rfl, rfl⟩
            · rw [if_neg h13] at hp
              by_cases h17 : y1.1 = 42
              · rw [if_pos h17] at hp
                refine ck_lJ (tgt := 147) k_Rd_readUnit rfl rfl (by decide) h17 rfl rfl ?_
                refine ck_p (L' := [some (.ref a), some (.int (σ.1 8))]) (st' := [.ref a]) k_Rd_readUnit rfl rfl ?_
                refine ck_p (L' := [some (.ref a), some (.int (σ.1 8))]) (st' := [.int (σ.1 8), .ref a]) k_Rd_readUnit rfl rfl ?_
                cases hy18 : sp_Rd_readLoop f (σ.1 8) y1.2 with
                | none =>
                  rw [hy18] at hp
                  cases hp
                | some y18 =>
                  rw [hy18] at hp
                  try dsimp only at hp
                  refine ck_ivB (M' := m_Rd_readLoop) (As := [.int (σ.1 8)]) k_Rd_readUnit rfl rfl rfl rfl rfl rfl rfl (Nat.le_of_ble_eq_true rfl) (c_sp_Rd_readLoop hf (by omega) hy18) (fun hby18 => ?_)
                  cases hp
                  exact ck_ret (v := some (va_rf y18.1)) k_Rd_readUnit rfl rfl (by cases y18.1 <;> exact trivial) rfl ⟨rfl, rfl⟩
              · rw [if_neg h17] at hp
                by_cases h19 : y1.1 = 46
                · rw [if_pos h19] at hp
                  refine ck_lJ (tgt := 181) k_Rd_readUnit rfl rfl (by decide) h19 rfl rfl ?_
                  refine ck_p (L' := [some (.ref a), some (.int (σ.1 8))]) (st' := [.ref a]) k_Rd_readUnit rfl rfl ?_
                  cases hy20 : sp_Rd_readExit   y1.2 with
                  | none =>
                    rw [hy20] at hp
                    cases hp
                  | some y20 =>
                    rw [hy20] at hp
                    try dsimp only at hp
                    refine ck_ivB (M' := m_Rd_readExit) (As := []) k_Rd_readUnit rfl rfl rfl rfl rfl rfl rfl (Nat.le_of_ble_eq_true rfl) (c_sp_Rd_readExit  hy20) (fun hby20 => ?_)
                    cases hp
                    exact ck_ret (v := some (va_rf y20.1)) k_Rd_readUnit rfl rfl (by cases y20.1 <;> exact trivial) rfl ⟨rfl, rfl⟩
                · rw [if_neg h19] at hp
                  by_cases h21 : y1.1 = 48
                  · rw [if_pos h21] at hp
                    refine ck_lJ (tgt := 124) k_Rd_readUnit rfl rfl (by decide) h21 rfl rfl ?_
                    cases hy22 : sp_Rd_nothing   y1.2 with
                    | none =>
                      rw [hy22] at hp
                      cases hp
                    | some y22 =>
                      rw [hy22] at hp
                      try dsimp only at hp
                      refine ck_isB (M' := m_Rd_nothing) (As := []) k_Rd_readUnit rfl rfl rfl rfl rfl rfl (Nat.le_of_ble_eq_true rfl) (c_sp_Rd_nothing  hy22) (fun hby22 => ?_)
                      cases hp
                      exact ck_ret (v := some (va_rf y22.1)) k_Rd_readUnit rfl rfl (by cases y22.1 <;> exact trivial) rfl ⟨rfl, rfl⟩
                  · rw [if_neg h21] at hp
                    by_cases h23 : y1.1 = 49
                    · rw [if_pos h23] at hp
                      refine ck_lJ (tgt := 128) k_Rd_readUnit rfl rfl (by decide) h23 rfl rfl ?_
                      refine ck_p (L' := [some (.ref a), some (.int (σ.1 8))]) (st' := [.ref a]) k_Rd_readUnit rfl rfl ?_
                      refine ck_p (L' := [some (.ref a), some (.int (σ.1 8))]) (st' := [.int (σ.1 8), .ref a]) k_Rd_readUnit rfl rfl ?_
                      cases hy24 : sp_Rd_newPause  (σ.1 8) y1.2 with
                      | none =>
                        rw [hy24] at hp
                        cases hp
                      | some y24 =>
                        rw [hy24] at hp
                        try dsimp only at hp
                        refine ck_ivB (M' := m_Rd_newPause) (As := [.int (σ.1 8)]) k_Rd_readUnit rfl rfl rfl rfl rfl rfl rfl (Nat.le_of_ble_eq_true rfl) (c_sp_Rd_newPause  hy24) (fun hby24 => ?_)
                        cases hp
                        exact ck_ret (v := some (va_rf y24.1)) k_Rd_readUnit rfl rfl (by cases y24.1 <;> exact trivial) rfl ⟨rfl, rfl⟩
                    · rw [if_neg h23] at hp
                      by_cases h25 : y1.1 = 63
                      · rw [if_pos h25] at hp
                        refine ck_lJ (tgt := 142) k_Rd_readUnit rfl rfl (by decide) h25 rfl rfl ?_
                        refine ck_p (L' := [some (.ref a), some (.int (σ.1 8))]) (st' := [.ref a]) k_Rd_readUnit rfl rfl ?_
                        cases hy26 : sp_Rd_readAsk f  y1.2 with
                        | none =>
                          rw [hy26] at hp
                          cases hp
                        | some y26 =>
                          rw [hy26] at hp
                          try dsimp only at hp
                          refine ck_ivB (M' := m_Rd_readAsk) (As := []) k_Rd_readUnit rfl rfl rfl rfl rfl rfl rfl (Nat.le_of_ble_eq_true rfl) (c_sp_Rd_readAsk hf (by omega) hy26) (fun hby26 => ?_)
                          cases hp
                          exact ck_ret (v := some (va_rf y26.1)) k_Rd_readUnit rfl rfl (by cases y26.1 <;> exact trivial) rfl ⟨rfl, rfl⟩
                      · rw [if_neg h25] at hp
                        by_cases h27 : y1.1 = 64
                        · rw [if_pos h27] at hp
                          refine ck_lJ (tgt := 186) k_Rd_readUnit rfl rfl (by decide) h27 rfl rfl ?_
                          refine ck_p (L' := [some (.ref a), some (.int (σ.1 8))]) (st' := [.ref a]) k_Rd_readUnit rfl rfl ?_
                          refine ck_p (L' := [some (.ref a), some (.int (σ.1 8))]) (st' := [.int (σ.1 8), .ref a]) k_Rd_readUnit rfl rfl ?_
                          cases hy28 : sp_Rd_readLocal f (σ.1 8) y1.2 with
                          | none =>
                            rw [hy28] at hp
                            cases hp
                          | some y28 =>
                            rw [hy28] at hp
                            try dsimp only at hp
                            refine ck_ivB (M' := m_Rd_readLocal) (As := [.int (σ.1 8)]) k_Rd_readUnit rfl rfl rfl rfl rfl rfl rfl (Nat.le_of_ble_eq_true rfl) (c_sp_Rd_readLocal hf (by omega) hy28) (fun hby28 => ?_)
                            cases hp
                            exact ck_ret (v := some (va_rf y28.1)) k_Rd_readUnit rfl rfl (by cases y28.1 <;> exact trivial) rfl ⟨rfl, rfl⟩
                        · rw [if_neg h27] at hp
                          by_cases h29 : y1.1 = 94
                          · rw [if_pos h29] at hp
                            refine ck_lJ (tgt := 212) k_Rd_readUnit rfl rfl (by decide) h29 rfl rfl ?_
                            refine ck_p (L' := [some (.ref a), some (.int (σ.1 8))]) (st' := [.ref a]) k_Rd_readUnit rfl rfl ?_
                            refine ck_p (L' := [some (.ref a), some (.int (σ.1 8))]) (st' := [.ref a, .ref a]) k_Rd_readUnit rfl rfl ?_
                            cases hy30 : sp_Rd_readEmittedSignal   y1.2 with
                            | none =>
                              rw [hy30] at hp
                              cases hp
                            | some y30 =>
                              rw [hy30] at hp
                              try dsimp only at hp
                              refine ck_ivB (M' := m_Rd_readEmittedSignal) (As := []) k_Rd_readUnit rfl rfl rfl rfl rfl rfl rfl (Nat.le_of_ble_eq_true rfl) (c_sp_Rd_readEmittedSignal  hy30) (fun hby30 => ?_)
                              refine ck_p (L' := [some (.ref a), some (.int (σ.1 8))]) (st' := [.int (σ.1 8), .int y30.1, .ref a]) k_Rd_readUnit rfl rfl ?_
                              cases hy31 : sp_Rd_newSustain  y30.1 (σ.1 8) y30.2 with
                              | none =>
                                rw [hy31] at hp
                                cases hp
                              | some y31 =>
                                rw [hy31] at hp
                                try dsimp only at hp
                                refine ck_ivB (M' := m_Rd_newSustain) (As := [.int y30.1, .int (σ.1 8)]) k_Rd_readUnit rfl rfl rfl rfl rfl rfl rfl (Nat.le_of_ble_eq_true rfl) (c_sp_Rd_newSustain  hy31) (fun hby31 => ?_)
                                cases hp
                                exact ck_ret (v := some (va_rf y31.1)) k_Rd_readUnit rfl rfl (by cases y31.1 <;> exact trivial) rfl ⟨rfl, rfl⟩
                          · rw [if_neg h29] at hp
                            by_cases h32 : y1.1 = 126
                            · rw [if_pos h32] at hp
                              refine ck_lJ (tgt := 229) k_Rd_readUnit rfl rfl (by decide) h32 rfl rfl ?_
                              refine ck_p (L' := [some (.ref a), some (.int (σ.1 8))]) (st' := [.ref a]) k_Rd_readUnit rfl rfl ?_
                              refine ck_p (L' := [some (.ref a), some (.int (σ.1 8))]) (st' := [.int (σ.1 8), .ref a]) k_Rd_readUnit rfl rfl ?_
                              refine ck_p (L' := [some (.ref a), some (.int (σ.1 8))]) (st' := [.int 0, .int (σ.1 8), .ref a]) k_Rd_readUnit rfl rfl ?_
                              cases hy33 : sp_Rd_readAbort f (σ.1 8) 0 y1.2 with
                              | none =>
                                rw [hy33] at hp
                                cases hp
                              | some y33 =>
                                rw [hy33] at hp
                                try dsimp only at hp
                                refine ck_ivB (M' := m_Rd_readAbort) (As := [.int (σ.1 8), .int 0]) k_Rd_readUnit rfl rfl rfl rfl rfl rfl rfl (Nat.le_of_ble_eq_true rfl) (c_sp_Rd_readAbort hf (by omega) hy33) (fun hby33 => ?_)
                                cases hp
                                exact ck_ret (v := some (va_rf y33.1)) k_Rd_readUnit rfl rfl (by cases y33.1 <;> exact trivial) rfl ⟨rfl, rfl⟩
                            · rw [if_neg h32] at hp
                              refine ck_lO (tgt := 236) k_Rd_readUnit rfl rfl (by decide) (sw_Rd_readUnit h2 h5 h7 h11 h13 h17 h19 h21 h23 h25 h27 h29 h32) rfl ?_
                              refine ck_p (L' := [some (.ref a), some (.int (σ.1 8))]) (st' := [.ref a]) k_Rd_readUnit rfl rfl ?_
                              refine ck_p (L' := [some (.ref a), some (.int (σ.1 8))]) (st' := [.int (σ.1 8), .ref a]) k_Rd_readUnit rfl rfl ?_
                              refine ck_pt k_Rd_readUnit rfl rfl rfl trivial (Nat.le_of_ble_eq_true rfl) rfl ?_
                              refine ck_p (L' := [some (.ref a), some (.int (σ.1 8))]) (st' := [.ref a]) k_Rd_readUnit rfl rfl ?_
                              cases hy34 : sp_Rd_peek   ((upd y1.2.1 8 (σ.1 8)), y1.2.2.1, y1.2.2.2.1, y1.2.2.2.2.1, y1.2.2.2.2.2.1, y1.2.2.2.2.2.2) with
                              | none =>
                                rw [hy34] at hp
                                cases hp
                              | some y34 =>
                                rw [hy34] at hp
                                try dsimp only at hp
                                refine ck_ivB (M' := m_Rd_peek) (As := []) k_Rd_readUnit rfl rfl rfl rfl rfl rfl rfl (Nat.le_of_ble_eq_true rfl) (c_sp_Rd_peek  hy34) (fun hby34 => ?_)
                                refine ck_p (L' := [some (.ref a), some (.int (σ.1 8))]) (st' := [.int 40, .int y34.1]) k_Rd_readUnit rfl rfl ?_
                                refine ck_ic k_Rd_readUnit rfl rfl rfl (fun h35 => ?_) (fun h35 => ?_)
                                · skip
                                  rw [if_neg (show ¬ (y34.1 = 40) from h35)] at hp
                                  refine ck_p (L' := [some (.ref a), some (.int (σ.1 8))]) (st' := [.ref a]) k_Rd_readUnit rfl rfl ?_
                                  cases hy36 : sp_Rd_readNoUnit   y34.2 with
                                  | none =>
                                    rw [hy36] at hp
                                    cases hp
                                  | some y36 =>
                                    rw [hy36] at hp
                                    try dsimp only at hp
                                    refine ck_ivB (M' := m_Rd_readNoUnit) (As := []) k_Rd_readUnit rfl rfl rfl rfl rfl rfl rfl (Nat.le_of_ble_eq_true rfl) (c_sp_Rd_readNoUnit  hy36) (fun hby36 => ?_)
                                    cases hp
                                    exact ck_ret (v := some (va_rf y36.1)) k_Rd_readUnit rfl rfl (by cases y36.1 <;> exact trivial) rfl ⟨rfl, rfl⟩
                                · skip
                                  rw [if_pos (show y34.1 = 40 from h35)] at hp
                                  refine ck_p (L' := [some (.ref a), some (.int (σ.1 8))]) (st' := [.ref a]) k_Rd_readUnit rfl rfl ?_
                                  cases hy37 : sp_Rd_readBody f  y34.2 with
                                  | none =>
                                    rw [hy37] at hp
                                    cases hp
                                  | some y37 =>
                                    rw [hy37] at hp
                                    try dsimp only at hp
                                    refine ck_ivB (M' := m_Rd_readBody) (As := []) k_Rd_readUnit rfl rfl rfl rfl rfl rfl rfl (Nat.le_of_ble_eq_true rfl) (c_sp_Rd_readBody hf (by omega) hy37) (fun hby37 => ?_)
                                    refine ck_j k_Rd_readUnit rfl rfl ?_
                                    cases hp
                                    exact ck_ret (v := some (va_rf y37.1)) k_Rd_readUnit rfl rfl (by cases y37.1 <;> exact trivial) rfl ⟨rfl, rfl⟩
def sp_Rd_readRow_9 (f : ck_S → Option (Option Nat × ck_S))  : Nat → Option Nat → Option Nat → Int32 → ck_S → Option (Option Nat × ck_S)
  | 0, _, _, _, _ => none
  | m + 1, v1, v2, v3, σ => (if (500 : Int32) ≤ v3 then (match v2 with
  | none => none
  | some b3 => (match v1 with
  | none => none
  | some b4 => (if b3 = b4 then some ((some b4), σ) else (match sp_Node_init  σ.2.2.2.2.1 9 0 (some b4) (σ.1, σ.2.1, σ.2.2.1, (eset σ.2.2.2.1 σ.2.2.2.2.1 (.inr (2, gx_def gx_kd2))), (σ.2.2.2.2.1 + 1), (σ.2.2.2.2.2 + 6)) with
  | none => none
  | some y6 => some ((some σ.2.2.2.2.1), y6))))) else (match sp_Rd_peek   σ with
  | none => none
  | some y7 => (if y7.1 = 59 then (match sp_Rd_readUnit f  ((upd y7.2.1 8 ((y7.2.1 8) + 1)), y7.2.2.1, y7.2.2.2.1, y7.2.2.2.2.1, y7.2.2.2.2.2.1, y7.2.2.2.2.2.2) with
  | none => none
  | some y13 => (match v2 with
  | none => none
  | some b14 => (match ep y13.2.2.2.2.1 b14 2 5 (va_rf y13.1) with
  | none => none
  | some y15 => (match egR y15 b14 2 5 with
  | none => none
  | some y16 => sp_Rd_readRow_9 f   m v1 y16 (v3 + 1) (y13.2.1, y13.2.2.1, y13.2.2.2.1, y15, y13.2.2.2.2.2.1, y13.2.2.2.2.2.2))))) else (match v2 with
  | none => none
  | some b9 => (match v1 with
  | none => none
  | some b10 => (if b9 = b10 then some ((some b10), y7.2) else (match sp_Node_init  y7.2.2.2.2.2.1 9 0 (some b10) (y7.2.1, y7.2.2.1, y7.2.2.2.1, (eset y7.2.2.2.2.1 y7.2.2.2.2.2.1 (.inr (2, gx_def gx_kd2))), (y7.2.2.2.2.2.1 + 1), (y7.2.2.2.2.2.2 + 6)) with
  | none => none
  | some y12 => some ((some y7.2.2.2.2.2.1), y12))))))))
theorem c_sp_Rd_readRow_9 (hf : rb_IH l F a A D f) (hD : D ≤ d) {r : Option Nat × ck_S} : ∀ (m : Nat) (v1 : Option Nat) (v2 : Option Nat) (v3 : Int32) (σ : ck_S), sp_Rd_readRow_9 f  m v1 v2 v3 σ = some r → ck_Go l F (d + 7) m_Rd_readRow rd_K a A 9 ([some (.ref a), some (va_rf v1), some (va_rf v2), some (.int v3)]) [] σ (fun w σ' => w = some (va_rf r.1) ∧ σ' = r.2) := by
  intro m
  induction m with
  | zero => intro v1 v2 v3 σ hp; cases hp
  | succ m ihm =>
    intro v1 v2 v3 σ hp
    unfold sp_Rd_readRow_9 at hp
    refine ck_p (L' := [some (.ref a), some (va_rf v1), some (va_rf v2), some (.int v3)]) (st' := [.int v3]) k_Rd_readRow rfl rfl ?_
    refine ck_p (L' := [some (.ref a), some (va_rf v1), some (va_rf v2), some (.int v3)]) (st' := [.int 500, .int v3]) k_Rd_readRow rfl rfl ?_
    refine ck_ic k_Rd_readRow rfl rfl rfl (fun h2 => ?_) (fun h2 => ?_)
    · skip
      rw [if_pos (show (500 : Int32) ≤ v3 from h2)] at hp
      refine ck_p (L' := [some (.ref a), some (va_rf v1), some (va_rf v2), some (.int v3)]) (st' := [va_rf v2]) k_Rd_readRow rfl (by cases v2 <;> rfl) ?_
      refine ck_p (L' := [some (.ref a), some (va_rf v1), some (va_rf v2), some (.int v3)]) (st' := [va_rf v1, va_rf v2]) k_Rd_readRow rfl (by cases v1 <;> rfl) ?_
      cases v2 with
      | none =>
        try dsimp only at hp
        cases hp
      | some b3 =>
        try dsimp only at hp
        cases v1 with
        | none =>
          try dsimp only at hp
          cases hp
        | some b4 =>
          try dsimp only at hp
          refine ck_ac k_Rd_readRow rfl rfl (fun h5 => ?_) (fun h5 => ?_)
          · rw [if_pos (show b3 = b4 from h5)] at hp
            refine ck_p (L' := [some (.ref a), some (.ref b4), some (.ref b3), some (.int v3)]) (st' := [.ref b4]) k_Rd_readRow rfl rfl ?_
            refine ck_j k_Rd_readRow rfl rfl ?_
            cases hp
            exact ck_ret (v := some (va_rf (some b4))) k_Rd_readRow rfl rfl trivial rfl ⟨rfl, rfl⟩
          · rw [if_neg (show ¬ (b3 = b4) from h5)] at hp
            refine ck_nw k_Rd_readRow rfl rfl rfl rfl rfl rfl ?_
            refine ck_p (L' := [some (.ref a), some (.ref b4), some (.ref b3), some (.int v3)]) (st' := [.ref σ.2.2.2.2.1, .ref σ.2.2.2.2.1]) k_Rd_readRow rfl rfl ?_
            refine ck_p (L' := [some (.ref a), some (.ref b4), some (.ref b3), some (.int v3)]) (st' := [.int 9, .ref σ.2.2.2.2.1, .ref σ.2.2.2.2.1]) k_Rd_readRow rfl rfl ?_
            refine ck_p (L' := [some (.ref a), some (.ref b4), some (.ref b3), some (.int v3)]) (st' := [.int 0, .int 9, .ref σ.2.2.2.2.1, .ref σ.2.2.2.2.1]) k_Rd_readRow rfl rfl ?_
            refine ck_p (L' := [some (.ref a), some (.ref b4), some (.ref b3), some (.int v3)]) (st' := [.ref b4, .int 0, .int 9, .ref σ.2.2.2.2.1, .ref σ.2.2.2.2.1]) k_Rd_readRow rfl rfl ?_
            cases hy6 : sp_Node_init  σ.2.2.2.2.1 9 0 (some b4) (σ.1, σ.2.1, σ.2.2.1, (eset σ.2.2.2.1 σ.2.2.2.2.1 (.inr (2, gx_def gx_kd2))), (σ.2.2.2.2.1 + 1), (σ.2.2.2.2.2 + 6)) with
            | none =>
              rw [hy6] at hp
              cases hp
            | some y6 =>
              rw [hy6] at hp
              try dsimp only at hp
              refine ck_inV (M' := m_Node_init) (As := [.int 9, .int 0, .ref b4]) k_Rd_readRow rfl rfl rfl rfl rfl rfl (Nat.le_of_ble_eq_true rfl) (c_sp_Node_init  hy6) ?_
              cases hp
              exact ck_ret (v := some (va_rf (some σ.2.2.2.2.1))) k_Rd_readRow rfl rfl trivial rfl ⟨rfl, rfl⟩
    · skip
      rw [if_neg (show ¬ ((500 : Int32) ≤ v3) from h2)] at hp
      refine ck_p (L' := [some (.ref a), some (va_rf v1), some (va_rf v2), some (.int v3)]) (st' := [.ref a]) k_Rd_readRow rfl rfl ?_
      cases hy7 : sp_Rd_peek   σ with
      | none =>
        rw [hy7] at hp
        cases hp
      | some y7 =>
        rw [hy7] at hp
        try dsimp only at hp
        refine ck_ivB (M' := m_Rd_peek) (As := []) k_Rd_readRow rfl rfl rfl rfl rfl rfl rfl (Nat.le_of_ble_eq_true rfl) (c_sp_Rd_peek  hy7) (fun hby7 => ?_)
        refine ck_p (L' := [some (.ref a), some (va_rf v1), some (va_rf v2), some (.int v3)]) (st' := [.int 59, .int y7.1]) k_Rd_readRow rfl rfl ?_
        refine ck_ic k_Rd_readRow rfl rfl rfl (fun h8 => ?_) (fun h8 => ?_)
        · skip
          rw [if_neg (show ¬ (y7.1 = 59) from h8)] at hp
          refine ck_p (L' := [some (.ref a), some (va_rf v1), some (va_rf v2), some (.int v3)]) (st' := [va_rf v2]) k_Rd_readRow rfl (by cases v2 <;> rfl) ?_
          refine ck_p (L' := [some (.ref a), some (va_rf v1), some (va_rf v2), some (.int v3)]) (st' := [va_rf v1, va_rf v2]) k_Rd_readRow rfl (by cases v1 <;> rfl) ?_
          cases v2 with
          | none =>
            try dsimp only at hp
            cases hp
          | some b9 =>
            try dsimp only at hp
            cases v1 with
            | none =>
              try dsimp only at hp
              cases hp
            | some b10 =>
              try dsimp only at hp
              refine ck_ac k_Rd_readRow rfl rfl (fun h11 => ?_) (fun h11 => ?_)
              · rw [if_pos (show b9 = b10 from h11)] at hp
                refine ck_p (L' := [some (.ref a), some (.ref b10), some (.ref b9), some (.int v3)]) (st' := [.ref b10]) k_Rd_readRow rfl rfl ?_
                refine ck_j k_Rd_readRow rfl rfl ?_
                cases hp
                exact ck_ret (v := some (va_rf (some b10))) k_Rd_readRow rfl rfl trivial rfl ⟨rfl, rfl⟩
              · rw [if_neg (show ¬ (b9 = b10) from h11)] at hp
                refine ck_nw k_Rd_readRow rfl rfl rfl rfl rfl rfl ?_
                refine ck_p (L' := [some (.ref a), some (.ref b10), some (.ref b9), some (.int v3)]) (st' := [.ref y7.2.2.2.2.2.1, .ref y7.2.2.2.2.2.1]) k_Rd_readRow rfl rfl ?_
                refine ck_p (L' := [some (.ref a), some (.ref b10), some (.ref b9), some (.int v3)]) (st' := [.int 9, .ref y7.2.2.2.2.2.1, .ref y7.2.2.2.2.2.1]) k_Rd_readRow rfl rfl ?_
                refine ck_p (L' := [some (.ref a), some (.ref b10), some (.ref b9), some (.int v3)]) (st' := [.int 0, .int 9, .ref y7.2.2.2.2.2.1, .ref y7.2.2.2.2.2.1]) k_Rd_readRow rfl rfl ?_
                refine ck_p (L' := [some (.ref a), some (.ref b10), some (.ref b9), some (.int v3)]) (st' := [.ref b10, .int 0, .int 9, .ref y7.2.2.2.2.2.1, .ref y7.2.2.2.2.2.1]) k_Rd_readRow rfl rfl ?_
                cases hy12 : sp_Node_init  y7.2.2.2.2.2.1 9 0 (some b10) (y7.2.1, y7.2.2.1, y7.2.2.2.1, (eset y7.2.2.2.2.1 y7.2.2.2.2.2.1 (.inr (2, gx_def gx_kd2))), (y7.2.2.2.2.2.1 + 1), (y7.2.2.2.2.2.2 + 6)) with
                | none =>
                  rw [hy12] at hp
                  cases hp
                | some y12 =>
                  rw [hy12] at hp
                  try dsimp only at hp
                  refine ck_inV (M' := m_Node_init) (As := [.int 9, .int 0, .ref b10]) k_Rd_readRow rfl rfl rfl rfl rfl rfl (Nat.le_of_ble_eq_true rfl) (c_sp_Node_init  hy12) ?_
                  cases hp
                  exact ck_ret (v := some (va_rf (some y7.2.2.2.2.2.1))) k_Rd_readRow rfl rfl trivial rfl ⟨rfl, rfl⟩
        · skip
          rw [if_pos (show y7.1 = 59 from h8)] at hp
          refine ck_p (L' := [some (.ref a), some (va_rf v1), some (va_rf v2), some (.int v3)]) (st' := [.ref a]) k_Rd_readRow rfl rfl ?_
          refine ck_p (L' := [some (.ref a), some (va_rf v1), some (va_rf v2), some (.int v3)]) (st' := [.ref a, .ref a]) k_Rd_readRow rfl rfl ?_
          refine ck_g k_Rd_readRow rfl rfl rfl rfl ?_
          refine ck_p (L' := [some (.ref a), some (va_rf v1), some (va_rf v2), some (.int v3)]) (st' := [.int 1, .int (y7.2.1 8), .ref a]) k_Rd_readRow rfl rfl ?_
          refine ck_p (L' := [some (.ref a), some (va_rf v1), some (va_rf v2), some (.int v3)]) (st' := [.int ((y7.2.1 8) + 1), .ref a]) k_Rd_readRow rfl rfl ?_
          refine ck_pt k_Rd_readRow rfl rfl rfl trivial (Nat.le_of_ble_eq_true rfl) rfl ?_
          refine ck_p (L' := [some (.ref a), some (va_rf v1), some (va_rf v2), some (.int v3)]) (st' := [va_rf v2]) k_Rd_readRow rfl (by cases v2 <;> rfl) ?_
          refine ck_p (L' := [some (.ref a), some (va_rf v1), some (va_rf v2), some (.int v3)]) (st' := [.ref a, va_rf v2]) k_Rd_readRow rfl rfl ?_
          cases hy13 : sp_Rd_readUnit f  ((upd y7.2.1 8 ((y7.2.1 8) + 1)), y7.2.2.1, y7.2.2.2.1, y7.2.2.2.2.1, y7.2.2.2.2.2.1, y7.2.2.2.2.2.2) with
          | none =>
            rw [hy13] at hp
            cases hp
          | some y13 =>
            rw [hy13] at hp
            try dsimp only at hp
            refine ck_ivB (M' := m_Rd_readUnit) (As := []) k_Rd_readRow rfl rfl rfl rfl rfl rfl rfl (by cases v2 <;> exact (Nat.le_of_ble_eq_true rfl)) (c_sp_Rd_readUnit hf (by omega) hy13) (fun hby13 => ?_)
            cases v2 with
            | none =>
              try dsimp only at hp
              cases hp
            | some b14 =>
              try dsimp only at hp
              cases hy15 : ep y13.2.2.2.2.1 b14 2 5 (va_rf y13.1) with
              | none =>
                rw [hy15] at hp
                cases hp
              | some y15 =>
                rw [hy15] at hp
                try dsimp only at hp
                refine ck_pE k_Rd_readRow rfl rfl rfl (by cases y13.1 <;> exact trivial) hy15 ?_
                refine ck_p (L' := [some (.ref a), some (va_rf v1), some (.ref b14), some (.int v3)]) (st' := [.ref b14]) k_Rd_readRow rfl rfl ?_
                cases hy16 : egR y15 b14 2 5 with
                | none =>
                  rw [hy16] at hp
                  cases hp
                | some y16 =>
                  rw [hy16] at hp
                  try dsimp only at hp
                  refine ck_gE k_Rd_readRow rfl rfl rfl (egR_of hy16) ?_
                  refine ck_p (L' := [some (.ref a), some (va_rf v1), some (va_rf y16), some (.int v3)]) (st' := []) k_Rd_readRow rfl (by cases v1 <;> cases y16 <;> rfl) ?_
                  refine ck_p (L' := [some (.ref a), some (va_rf v1), some (va_rf y16), some (.int (v3 + 1))]) (st' := []) k_Rd_readRow rfl (by cases y16 <;> rfl) ?_
                  refine ck_j k_Rd_readRow rfl rfl ?_
                  exact ihm _ _ _ _ hp
def sp_Rd_readRow (f : ck_S → Option (Option Nat × ck_S))  (σ : ck_S) : Option (Option Nat × ck_S) := (match sp_Rd_readUnit f  σ with
  | none => none
  | some y1 => sp_Rd_readRow_9 f  2601 y1.1 y1.1 0 y1.2)
theorem c_sp_Rd_readRow (hf : rb_IH l F a A D f) (hD : D ≤ d)  {σ : ck_S} {r : Option Nat × ck_S} (hp : sp_Rd_readRow f  σ = some r) : ck_Has l F (d + 7) m_Rd_readRow rd_K a A [.ref a] σ (fun w σ' => w = some (va_rf r.1) ∧ σ' = r.2) := by
  refine ck_meth (k := 3) (L := [some (.ref a), none, none, none]) pn_Rd rfl (Nat.le_of_ble_eq_true rfl) ?_
  unfold sp_Rd_readRow at hp
  refine ck_p (L' := [some (.ref a), none, none, none]) (st' := [.ref a]) k_Rd_readRow rfl rfl ?_
  cases hy1 : sp_Rd_readUnit f  σ with
  | none =>
    rw [hy1] at hp
    cases hp
  | some y1 =>
    rw [hy1] at hp
    try dsimp only at hp
    refine ck_ivB (M' := m_Rd_readUnit) (As := []) k_Rd_readRow rfl rfl rfl rfl rfl rfl rfl (Nat.le_of_ble_eq_true rfl) (c_sp_Rd_readUnit hf (by omega) hy1) (fun hby1 => ?_)
    refine ck_p (L' := [some (.ref a), some (va_rf y1.1), none, none]) (st' := []) k_Rd_readRow rfl (by cases y1.1 <;> rfl) ?_
    refine ck_p (L' := [some (.ref a), some (va_rf y1.1), none, none]) (st' := [va_rf y1.1]) k_Rd_readRow rfl (by cases y1.1 <;> rfl) ?_
    refine ck_p (L' := [some (.ref a), some (va_rf y1.1), some (va_rf y1.1), none]) (st' := []) k_Rd_readRow rfl (by cases y1.1 <;> rfl) ?_
    refine ck_p (L' := [some (.ref a), some (va_rf y1.1), some (va_rf y1.1), none]) (st' := [.int 0]) k_Rd_readRow rfl rfl ?_
    refine ck_p (L' := [some (.ref a), some (va_rf y1.1), some (va_rf y1.1), some (.int 0)]) (st' := []) k_Rd_readRow rfl (by cases y1.1 <;> rfl) ?_
    exact c_sp_Rd_readRow_9 hf (by omega)  _ _ _ _ _ hp
def sp_Rd_readBeside_9 (f : ck_S → Option (Option Nat × ck_S))  : Nat → Option Nat → Option Nat → Int32 → ck_S → Option (Option Nat × ck_S)
  | 0, _, _, _, _ => none
  | m + 1, v1, v2, v3, σ => (if (500 : Int32) ≤ v3 then (match v2 with
  | none => none
  | some b3 => (match v1 with
  | none => none
  | some b4 => (if b3 = b4 then some ((some b4), σ) else (match sp_Node_init  σ.2.2.2.2.1 10 0 (some b4) (σ.1, σ.2.1, σ.2.2.1, (eset σ.2.2.2.1 σ.2.2.2.2.1 (.inr (2, gx_def gx_kd2))), (σ.2.2.2.2.1 + 1), (σ.2.2.2.2.2 + 6)) with
  | none => none
  | some y6 => some ((some σ.2.2.2.2.1), y6))))) else (match sp_Rd_peek   σ with
  | none => none
  | some y7 => (if y7.1 = 124 then (match sp_Rd_readRow f  ((upd y7.2.1 8 ((y7.2.1 8) + 1)), y7.2.2.1, y7.2.2.2.1, y7.2.2.2.2.1, y7.2.2.2.2.2.1, y7.2.2.2.2.2.2) with
  | none => none
  | some y13 => (match v2 with
  | none => none
  | some b14 => (match ep y13.2.2.2.2.1 b14 2 5 (va_rf y13.1) with
  | none => none
  | some y15 => (match egR y15 b14 2 5 with
  | none => none
  | some y16 => sp_Rd_readBeside_9 f   m v1 y16 (v3 + 1) (y13.2.1, y13.2.2.1, y13.2.2.2.1, y15, y13.2.2.2.2.2.1, y13.2.2.2.2.2.2))))) else (match v2 with
  | none => none
  | some b9 => (match v1 with
  | none => none
  | some b10 => (if b9 = b10 then some ((some b10), y7.2) else (match sp_Node_init  y7.2.2.2.2.2.1 10 0 (some b10) (y7.2.1, y7.2.2.1, y7.2.2.2.1, (eset y7.2.2.2.2.1 y7.2.2.2.2.2.1 (.inr (2, gx_def gx_kd2))), (y7.2.2.2.2.2.1 + 1), (y7.2.2.2.2.2.2 + 6)) with
  | none => none
  | some y12 => some ((some y7.2.2.2.2.2.1), y12))))))))
theorem c_sp_Rd_readBeside_9 (hf : rb_IH l F a A D f) (hD : D ≤ d) {r : Option Nat × ck_S} : ∀ (m : Nat) (v1 : Option Nat) (v2 : Option Nat) (v3 : Int32) (σ : ck_S), sp_Rd_readBeside_9 f  m v1 v2 v3 σ = some r → ck_Go l F (d + 8) m_Rd_readBeside rd_K a A 9 ([some (.ref a), some (va_rf v1), some (va_rf v2), some (.int v3)]) [] σ (fun w σ' => w = some (va_rf r.1) ∧ σ' = r.2) := by
  intro m
  induction m with
  | zero => intro v1 v2 v3 σ hp; cases hp
  | succ m ihm =>
    intro v1 v2 v3 σ hp
    unfold sp_Rd_readBeside_9 at hp
    refine ck_p (L' := [some (.ref a), some (va_rf v1), some (va_rf v2), some (.int v3)]) (st' := [.int v3]) k_Rd_readBeside rfl rfl ?_
    refine ck_p (L' := [some (.ref a), some (va_rf v1), some (va_rf v2), some (.int v3)]) (st' := [.int 500, .int v3]) k_Rd_readBeside rfl rfl ?_
    refine ck_ic k_Rd_readBeside rfl rfl rfl (fun h2 => ?_) (fun h2 => ?_)
    · skip
      rw [if_pos (show (500 : Int32) ≤ v3 from h2)] at hp
      refine ck_p (L' := [some (.ref a), some (va_rf v1), some (va_rf v2), some (.int v3)]) (st' := [va_rf v2]) k_Rd_readBeside rfl (by cases v2 <;> rfl) ?_
      refine ck_p (L' := [some (.ref a), some (va_rf v1), some (va_rf v2), some (.int v3)]) (st' := [va_rf v1, va_rf v2]) k_Rd_readBeside rfl (by cases v1 <;> rfl) ?_
      cases v2 with
      | none =>
        try dsimp only at hp
        cases hp
      | some b3 =>
        try dsimp only at hp
        cases v1 with
        | none =>
          try dsimp only at hp
          cases hp
        | some b4 =>
          try dsimp only at hp
          refine ck_ac k_Rd_readBeside rfl rfl (fun h5 => ?_) (fun h5 => ?_)
          · rw [if_pos (show b3 = b4 from h5)] at hp
            refine ck_p (L' := [some (.ref a), some (.ref b4), some (.ref b3), some (.int v3)]) (st' := [.ref b4]) k_Rd_readBeside rfl rfl ?_
            refine ck_j k_Rd_readBeside rfl rfl ?_
            cases hp
            exact ck_ret (v := some (va_rf (some b4))) k_Rd_readBeside rfl rfl trivial rfl ⟨rfl, rfl⟩
          · rw [if_neg (show ¬ (b3 = b4) from h5)] at hp
            refine ck_nw k_Rd_readBeside rfl rfl rfl rfl rfl rfl ?_
            refine ck_p (L' := [some (.ref a), some (.ref b4), some (.ref b3), some (.int v3)]) (st' := [.ref σ.2.2.2.2.1, .ref σ.2.2.2.2.1]) k_Rd_readBeside rfl rfl ?_
            refine ck_p (L' := [some (.ref a), some (.ref b4), some (.ref b3), some (.int v3)]) (st' := [.int 10, .ref σ.2.2.2.2.1, .ref σ.2.2.2.2.1]) k_Rd_readBeside rfl rfl ?_
            refine ck_p (L' := [some (.ref a), some (.ref b4), some (.ref b3), some (.int v3)]) (st' := [.int 0, .int 10, .ref σ.2.2.2.2.1, .ref σ.2.2.2.2.1]) k_Rd_readBeside rfl rfl ?_
            refine ck_p (L' := [some (.ref a), some (.ref b4), some (.ref b3), some (.int v3)]) (st' := [.ref b4, .int 0, .int 10, .ref σ.2.2.2.2.1, .ref σ.2.2.2.2.1]) k_Rd_readBeside rfl rfl ?_
            cases hy6 : sp_Node_init  σ.2.2.2.2.1 10 0 (some b4) (σ.1, σ.2.1, σ.2.2.1, (eset σ.2.2.2.1 σ.2.2.2.2.1 (.inr (2, gx_def gx_kd2))), (σ.2.2.2.2.1 + 1), (σ.2.2.2.2.2 + 6)) with
            | none =>
              rw [hy6] at hp
              cases hp
            | some y6 =>
              rw [hy6] at hp
              try dsimp only at hp
              refine ck_inV (M' := m_Node_init) (As := [.int 10, .int 0, .ref b4]) k_Rd_readBeside rfl rfl rfl rfl rfl rfl (Nat.le_of_ble_eq_true rfl) (c_sp_Node_init  hy6) ?_
              cases hp
              exact ck_ret (v := some (va_rf (some σ.2.2.2.2.1))) k_Rd_readBeside rfl rfl trivial rfl ⟨rfl, rfl⟩
    · skip
      rw [if_neg (show ¬ ((500 : Int32) ≤ v3) from h2)] at hp
      refine ck_p (L' := [some (.ref a), some (va_rf v1), some (va_rf v2), some (.int v3)]) (st' := [.ref a]) k_Rd_readBeside rfl rfl ?_
      cases hy7 : sp_Rd_peek   σ with
      | none =>
        rw [hy7] at hp
        cases hp
      | some y7 =>
        rw [hy7] at hp
        try dsimp only at hp
        refine ck_ivB (M' := m_Rd_peek) (As := []) k_Rd_readBeside rfl rfl rfl rfl rfl rfl rfl (Nat.le_of_ble_eq_true rfl) (c_sp_Rd_peek  hy7) (fun hby7 => ?_)
        refine ck_p (L' := [some (.ref a), some (va_rf v1), some (va_rf v2), some (.int v3)]) (st' := [.int 124, .int y7.1]) k_Rd_readBeside rfl rfl ?_
        refine ck_ic k_Rd_readBeside rfl rfl rfl (fun h8 => ?_) (fun h8 => ?_)
        · skip
          rw [if_neg (show ¬ (y7.1 = 124) from h8)] at hp
          refine ck_p (L' := [some (.ref a), some (va_rf v1), some (va_rf v2), some (.int v3)]) (st' := [va_rf v2]) k_Rd_readBeside rfl (by cases v2 <;> rfl) ?_
          refine ck_p (L' := [some (.ref a), some (va_rf v1), some (va_rf v2), some (.int v3)]) (st' := [va_rf v1, va_rf v2]) k_Rd_readBeside rfl (by cases v1 <;> rfl) ?_
          cases v2 with
          | none =>
            try dsimp only at hp
            cases hp
          | some b9 =>
            try dsimp only at hp
            cases v1 with
            | none =>
              try dsimp only at hp
              cases hp
            | some b10 =>
              try dsimp only at hp
              refine ck_ac k_Rd_readBeside rfl rfl (fun h11 => ?_) (fun h11 => ?_)
              · rw [if_pos (show b9 = b10 from h11)] at hp
                refine ck_p (L' := [some (.ref a), some (.ref b10), some (.ref b9), some (.int v3)]) (st' := [.ref b10]) k_Rd_readBeside rfl rfl ?_
                refine ck_j k_Rd_readBeside rfl rfl ?_
                cases hp
                exact ck_ret (v := some (va_rf (some b10))) k_Rd_readBeside rfl rfl trivial rfl ⟨rfl, rfl⟩
              · rw [if_neg (show ¬ (b9 = b10) from h11)] at hp
                refine ck_nw k_Rd_readBeside rfl rfl rfl rfl rfl rfl ?_
                refine ck_p (L' := [some (.ref a), some (.ref b10), some (.ref b9), some (.int v3)]) (st' := [.ref y7.2.2.2.2.2.1, .ref y7.2.2.2.2.2.1]) k_Rd_readBeside rfl rfl ?_
                refine ck_p (L' := [some (.ref a), some (.ref b10), some (.ref b9), some (.int v3)]) (st' := [.int 10, .ref y7.2.2.2.2.2.1, .ref y7.2.2.2.2.2.1]) k_Rd_readBeside rfl rfl ?_
                refine ck_p (L' := [some (.ref a), some (.ref b10), some (.ref b9), some (.int v3)]) (st' := [.int 0, .int 10, .ref y7.2.2.2.2.2.1, .ref y7.2.2.2.2.2.1]) k_Rd_readBeside rfl rfl ?_
                refine ck_p (L' := [some (.ref a), some (.ref b10), some (.ref b9), some (.int v3)]) (st' := [.ref b10, .int 0, .int 10, .ref y7.2.2.2.2.2.1, .ref y7.2.2.2.2.2.1]) k_Rd_readBeside rfl rfl ?_
                cases hy12 : sp_Node_init  y7.2.2.2.2.2.1 10 0 (some b10) (y7.2.1, y7.2.2.1, y7.2.2.2.1, (eset y7.2.2.2.2.1 y7.2.2.2.2.2.1 (.inr (2, gx_def gx_kd2))), (y7.2.2.2.2.2.1 + 1), (y7.2.2.2.2.2.2 + 6)) with
                | none =>
                  rw [hy12] at hp
                  cases hp
                | some y12 =>
                  rw [hy12] at hp
                  try dsimp only at hp
                  refine ck_inV (M' := m_Node_init) (As := [.int 10, .int 0, .ref b10]) k_Rd_readBeside rfl rfl rfl rfl rfl rfl (Nat.le_of_ble_eq_true rfl) (c_sp_Node_init  hy12) ?_
                  cases hp
                  exact ck_ret (v := some (va_rf (some y7.2.2.2.2.2.1))) k_Rd_readBeside rfl rfl trivial rfl ⟨rfl, rfl⟩
        · skip
          rw [if_pos (show y7.1 = 124 from h8)] at hp
          refine ck_p (L' := [some (.ref a), some (va_rf v1), some (va_rf v2), some (.int v3)]) (st' := [.ref a]) k_Rd_readBeside rfl rfl ?_
          refine ck_p (L' := [some (.ref a), some (va_rf v1), some (va_rf v2), some (.int v3)]) (st' := [.ref a, .ref a]) k_Rd_readBeside rfl rfl ?_
          refine ck_g k_Rd_readBeside rfl rfl rfl rfl ?_
          refine ck_p (L' := [some (.ref a), some (va_rf v1), some (va_rf v2), some (.int v3)]) (st' := [.int 1, .int (y7.2.1 8), .ref a]) k_Rd_readBeside rfl rfl ?_
          refine ck_p (L' := [some (.ref a), some (va_rf v1), some (va_rf v2), some (.int v3)]) (st' := [.int ((y7.2.1 8) + 1), .ref a]) k_Rd_readBeside rfl rfl ?_
          refine ck_pt k_Rd_readBeside rfl rfl rfl trivial (Nat.le_of_ble_eq_true rfl) rfl ?_
          refine ck_p (L' := [some (.ref a), some (va_rf v1), some (va_rf v2), some (.int v3)]) (st' := [va_rf v2]) k_Rd_readBeside rfl (by cases v2 <;> rfl) ?_
          refine ck_p (L' := [some (.ref a), some (va_rf v1), some (va_rf v2), some (.int v3)]) (st' := [.ref a, va_rf v2]) k_Rd_readBeside rfl rfl ?_
          cases hy13 : sp_Rd_readRow f  ((upd y7.2.1 8 ((y7.2.1 8) + 1)), y7.2.2.1, y7.2.2.2.1, y7.2.2.2.2.1, y7.2.2.2.2.2.1, y7.2.2.2.2.2.2) with
          | none =>
            rw [hy13] at hp
            cases hp
          | some y13 =>
            rw [hy13] at hp
            try dsimp only at hp
            refine ck_ivB (M' := m_Rd_readRow) (As := []) k_Rd_readBeside rfl rfl rfl rfl rfl rfl rfl (by cases v2 <;> exact (Nat.le_of_ble_eq_true rfl)) (c_sp_Rd_readRow hf (by omega) hy13) (fun hby13 => ?_)
            cases v2 with
            | none =>
              try dsimp only at hp
              cases hp
            | some b14 =>
              try dsimp only at hp
              cases hy15 : ep y13.2.2.2.2.1 b14 2 5 (va_rf y13.1) with
              | none =>
                rw [hy15] at hp
                cases hp
              | some y15 =>
                rw [hy15] at hp
                try dsimp only at hp
                refine ck_pE k_Rd_readBeside rfl rfl rfl (by cases y13.1 <;> exact trivial) hy15 ?_
                refine ck_p (L' := [some (.ref a), some (va_rf v1), some (.ref b14), some (.int v3)]) (st' := [.ref b14]) k_Rd_readBeside rfl rfl ?_
                cases hy16 : egR y15 b14 2 5 with
                | none =>
                  rw [hy16] at hp
                  cases hp
                | some y16 =>
                  rw [hy16] at hp
                  try dsimp only at hp
                  refine ck_gE k_Rd_readBeside rfl rfl rfl (egR_of hy16) ?_
                  refine ck_p (L' := [some (.ref a), some (va_rf v1), some (va_rf y16), some (.int v3)]) (st' := []) k_Rd_readBeside rfl (by cases v1 <;> cases y16 <;> rfl) ?_
                  refine ck_p (L' := [some (.ref a), some (va_rf v1), some (va_rf y16), some (.int (v3 + 1))]) (st' := []) k_Rd_readBeside rfl (by cases y16 <;> rfl) ?_
                  refine ck_j k_Rd_readBeside rfl rfl ?_
                  exact ihm _ _ _ _ hp
def sp_Rd_readBeside (f : ck_S → Option (Option Nat × ck_S))  (σ : ck_S) : Option (Option Nat × ck_S) := (match sp_Rd_readRow f  σ with
  | none => none
  | some y1 => sp_Rd_readBeside_9 f  2601 y1.1 y1.1 0 y1.2)
theorem c_sp_Rd_readBeside (hf : rb_IH l F a A D f) (hD : D ≤ d)  {σ : ck_S} {r : Option Nat × ck_S} (hp : sp_Rd_readBeside f  σ = some r) : ck_Has l F (d + 8) m_Rd_readBeside rd_K a A [.ref a] σ (fun w σ' => w = some (va_rf r.1) ∧ σ' = r.2) := by
  refine ck_meth (k := 3) (L := [some (.ref a), none, none, none]) pn_Rd rfl (Nat.le_of_ble_eq_true rfl) ?_
  unfold sp_Rd_readBeside at hp
  refine ck_p (L' := [some (.ref a), none, none, none]) (st' := [.ref a]) k_Rd_readBeside rfl rfl ?_
  cases hy1 : sp_Rd_readRow f  σ with
  | none =>
    rw [hy1] at hp
    cases hp
  | some y1 =>
    rw [hy1] at hp
    try dsimp only at hp
    refine ck_ivB (M' := m_Rd_readRow) (As := []) k_Rd_readBeside rfl rfl rfl rfl rfl rfl rfl (Nat.le_of_ble_eq_true rfl) (c_sp_Rd_readRow hf (by omega) hy1) (fun hby1 => ?_)
    refine ck_p (L' := [some (.ref a), some (va_rf y1.1), none, none]) (st' := []) k_Rd_readBeside rfl (by cases y1.1 <;> rfl) ?_
    refine ck_p (L' := [some (.ref a), some (va_rf y1.1), none, none]) (st' := [va_rf y1.1]) k_Rd_readBeside rfl (by cases y1.1 <;> rfl) ?_
    refine ck_p (L' := [some (.ref a), some (va_rf y1.1), some (va_rf y1.1), none]) (st' := []) k_Rd_readBeside rfl (by cases y1.1 <;> rfl) ?_
    refine ck_p (L' := [some (.ref a), some (va_rf y1.1), some (va_rf y1.1), none]) (st' := [.int 0]) k_Rd_readBeside rfl rfl ?_
    refine ck_p (L' := [some (.ref a), some (va_rf y1.1), some (va_rf y1.1), some (.int 0)]) (st' := []) k_Rd_readBeside rfl (by cases y1.1 <;> rfl) ?_
    exact c_sp_Rd_readBeside_9 hf (by omega)  _ _ _ _ _ hp
def rb : Nat → ck_S → Option (Option Nat × ck_S)
  | 0 => fun _ => none
  | n + 1 => fun σ => sp_Rd_readBeside (rb n) σ
theorem c_rb (n : Nat) : rb_IH l F a A (8 * n) (rb n) := by
  induction n with
  | zero => exact fun _ _ _ _ h => nomatch h
  | succ n ih =>
    intro dd σ r hd h
    obtain ⟨d, rfl⟩ : ∃ d, dd = d + 8 := ⟨dd - 8, by omega⟩
    exact c_sp_Rd_readBeside ih (by omega) h
end RD1
