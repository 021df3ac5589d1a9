section RP
variable {l : Launch} {F : gx_F} {d : Nat} {K : ck_K} {a : Nat} {A : Nat → Nat}
def sp_Rd_readProgram   (σ : ck_S) : Option (Option Nat × ck_S) := (match sp_Rd_startProgram   σ with
  | none => none
  | some y1 => (match sp_Rd_readName   y1 with
  | none => none
  | some y2 => (match sp_Rd_expect  40 y2.2 with
  | none => none
  | some y3 => (match sp_Rd_readSignals   y3 with
  | none => none
  | some y4 => (match sp_Rd_expect  41 ((upd y4.2.1 11 (y4.2.1 12)), y4.2.2.1, y4.2.2.2.1, y4.2.2.2.2.1, y4.2.2.2.2.2.1, y4.2.2.2.2.2.2) with
  | none => none
  | some y5 => (match sp_Rd_seesLetter   y5 with
  | none => none
  | some y6 => (if y6.1 = 0 then (match sp_Rd_refuse   y6.2 with
  | none => none
  | some y14 => (match sp_Rd_readSignals   y14 with
  | none => none
  | some y15 => (match sp_Rd_expect  123 y15.2 with
  | none => none
  | some y16 => (match rb 20 y16 with
  | none => none
  | some y17 => (match sp_Rd_expect  125 y17.2 with
  | none => none
  | some y18 => (match sp_Arrays_copyOf_5 (q_min (y18.1 16) 30) y18 with
  | none => none
  | some y19 => (match sp_Prog_init  y19.2.2.2.2.2.1 y2.1 y4.1 y15.1 y17.1 y19.1 (y19.2.1, y19.2.2.1, y19.2.2.2.1, (eset y19.2.2.2.2.1 y19.2.2.2.2.2.1 (.inr (3, gx_def gx_kd3))), (y19.2.2.2.2.2.1 + 1), (y19.2.2.2.2.2.2 + 5)) with
  | none => none
  | some y20 => some ((some y19.2.2.2.2.2.1), y20)))))))) else (match sp_Rd_readSignals   y6.2 with
  | none => none
  | some y8 => (match sp_Rd_expect  123 y8.2 with
  | none => none
  | some y9 => (match rb 20 y9 with
  | none => none
  | some y10 => (match sp_Rd_expect  125 y10.2 with
  | none => none
  | some y11 => (match sp_Arrays_copyOf_5 (q_min (y11.1 16) 30) y11 with
  | none => none
  | some y12 => (match sp_Prog_init  y12.2.2.2.2.2.1 y2.1 y4.1 y8.1 y10.1 y12.1 (y12.2.1, y12.2.2.1, y12.2.2.2.1, (eset y12.2.2.2.2.1 y12.2.2.2.2.2.1 (.inr (3, gx_def gx_kd3))), (y12.2.2.2.2.2.1 + 1), (y12.2.2.2.2.2.2 + 5)) with
  | none => none
  | some y13 => some ((some y12.2.2.2.2.2.1), y13))))))))))))))
theorem c_sp_Rd_readProgram   {σ : ck_S} {r : Option Nat × ck_S} (hp : sp_Rd_readProgram   σ = some r) : ck_Has l F (d + 161) m_Rd_readProgram rd_K a A [.ref a] σ (fun w σ' => w = some (va_rf r.1) ∧ σ' = r.2) := by
  refine ck_meth (k := 5) (L := [some (.ref a), none, none, none, none, none]) pn_Rd rfl (Nat.le_of_ble_eq_true rfl) ?_
  unfold sp_Rd_readProgram at hp
  refine ck_p (L' := [some (.ref a), none, none, none, none, none]) (st' := [.ref a]) k_Rd_readProgram rfl rfl ?_
  cases hy1 : sp_Rd_startProgram   σ with
  | none =>
    rw [hy1] at hp
    cases hp
  | some y1 =>
    rw [hy1] at hp
    try dsimp only at hp
    refine ck_ivV (M' := m_Rd_startProgram) (As := []) k_Rd_readProgram rfl rfl rfl rfl rfl rfl rfl (Nat.le_of_ble_eq_true rfl) (c_sp_Rd_startProgram  hy1) ?_
    refine ck_p (L' := [some (.ref a), none, none, none, none, none]) (st' := [.ref a]) k_Rd_readProgram rfl rfl ?_
    cases hy2 : sp_Rd_readName   y1 with
    | none =>
      rw [hy2] at hp
      cases hp
    | some y2 =>
      rw [hy2] at hp
      try dsimp only at hp
      refine ck_ivB (M' := m_Rd_readName) (As := []) k_Rd_readProgram rfl rfl rfl rfl rfl rfl rfl (Nat.le_of_ble_eq_true rfl) (c_sp_Rd_readName  hy2) (fun hby2 => ?_)
      refine ck_p (L' := [some (.ref a), some (.int y2.1), none, none, none, none]) (st' := []) k_Rd_readProgram rfl rfl ?_
      refine ck_p (L' := [some (.ref a), some (.int y2.1), none, none, none, none]) (st' := [.ref a]) k_Rd_readProgram rfl rfl ?_
      refine ck_p (L' := [some (.ref a), some (.int y2.1), none, none, none, none]) (st' := [.int 40, .ref a]) k_Rd_readProgram rfl rfl ?_
      cases hy3 : sp_Rd_expect  40 y2.2 with
      | none =>
        rw [hy3] at hp
        cases hp
      | some y3 =>
        rw [hy3] at hp
        try dsimp only at hp
        refine ck_ivV (M' := m_Rd_expect) (As := [.int 40]) k_Rd_readProgram rfl rfl rfl rfl rfl rfl rfl (Nat.le_of_ble_eq_true rfl) (c_sp_Rd_expect  hy3) ?_
        refine ck_p (L' := [some (.ref a), some (.int y2.1), none, none, none, none]) (st' := [.ref a]) k_Rd_readProgram rfl rfl ?_
        cases hy4 : sp_Rd_readSignals   y3 with
        | none =>
          rw [hy4] at hp
          cases hp
        | some y4 =>
          rw [hy4] at hp
          try dsimp only at hp
          refine ck_ivB (M' := m_Rd_readSignals) (As := []) k_Rd_readProgram rfl rfl rfl rfl rfl rfl rfl (Nat.le_of_ble_eq_true rfl) (c_sp_Rd_readSignals  hy4) (fun hby4 => ?_)
          refine ck_p (L' := [some (.ref a), some (.int y2.1), some (.int y4.1), none, none, none]) (st' := []) k_Rd_readProgram rfl rfl ?_
          refine ck_p (L' := [some (.ref a), some (.int y2.1), some (.int y4.1), none, none, none]) (st' := [.ref a]) k_Rd_readProgram rfl rfl ?_
          refine ck_p (L' := [some (.ref a), some (.int y2.1), some (.int y4.1), none, none, none]) (st' := [.ref a, .ref a]) k_Rd_readProgram rfl rfl ?_
          refine ck_g k_Rd_readProgram rfl rfl rfl rfl ?_
          refine ck_pt k_Rd_readProgram rfl rfl rfl trivial (Nat.le_of_ble_eq_true rfl) rfl ?_
          refine ck_p (L' := [some (.ref a), some (.int y2.1), some (.int y4.1), none, none, none]) (st' := [.ref a]) k_Rd_readProgram rfl rfl ?_
          refine ck_p (L' := [some (.ref a), some (.int y2.1), some (.int y4.1), none, none, none]) (st' := [.int 41, .ref a]) k_Rd_readProgram rfl rfl ?_
          cases hy5 : sp_Rd_expect  41 ((upd y4.2.1 11 (y4.2.1 12)), y4.2.2.1, y4.2.2.2.1, y4.2.2.2.2.1, y4.2.2.2.2.2.1, y4.2.2.2.2.2.2) with
          | none =>
            rw [hy5] at hp
            cases hp
          | some y5 =>
            rw [hy5] at hp
            try dsimp only at hp
            refine ck_ivV (M' := m_Rd_expect) (As := [.int 41]) k_Rd_readProgram rfl rfl rfl rfl rfl rfl rfl (Nat.le_of_ble_eq_true rfl) (c_sp_Rd_expect  hy5) ?_
            refine ck_p (L' := [some (.ref a), some (.int y2.1), some (.int y4.1), none, none, none]) (st' := [.ref a]) k_Rd_readProgram rfl rfl ?_
            cases hy6 : sp_Rd_seesLetter   y5 with
            | none =>
              rw [hy6] at hp
              cases hp
            | some y6 =>
              rw [hy6] at hp
              try dsimp only at hp
              refine ck_ivB (M' := m_Rd_seesLetter) (As := []) k_Rd_readProgram rfl rfl rfl rfl rfl rfl rfl (Nat.le_of_ble_eq_true rfl) (c_sp_Rd_seesLetter  hy6) (fun hby6 => ?_)
              refine ck_if k_Rd_readProgram rfl rfl rfl (fun h7 => ?_) (fun h7 => ?_)
              · skip
                rw [if_neg (show ¬ (y6.1 = 0) from h7)] at hp
                refine ck_p (L' := [some (.ref a), some (.int y2.1), some (.int y4.1), none, none, none]) (st' := [.ref a]) k_Rd_readProgram rfl rfl ?_
                cases hy8 : sp_Rd_readSignals   y6.2 with
                | none =>
                  rw [hy8] at hp
                  cases hp
                | some y8 =>
                  rw [hy8] at hp
                  try dsimp only at hp
                  refine ck_ivB (M' := m_Rd_readSignals) (As := []) k_Rd_readProgram rfl rfl rfl rfl rfl rfl rfl (Nat.le_of_ble_eq_true rfl) (c_sp_Rd_readSignals  hy8) (fun hby8 => ?_)
                  refine ck_p (L' := [some (.ref a), some (.int y2.1), some (.int y4.1), some (.int y8.1), none, none]) (st' := []) k_Rd_readProgram rfl rfl ?_
                  refine ck_p (L' := [some (.ref a), some (.int y2.1), some (.int y4.1), some (.int y8.1), none, none]) (st' := [.ref a]) k_Rd_readProgram rfl rfl ?_
                  refine ck_p (L' := [some (.ref a), some (.int y2.1), some (.int y4.1), some (.int y8.1), none, none]) (st' := [.int 123, .ref a]) k_Rd_readProgram rfl rfl ?_
                  cases hy9 : sp_Rd_expect  123 y8.2 with
                  | none =>
                    rw [hy9] at hp
                    cases hp
                  | some y9 =>
                    rw [hy9] at hp
                    try dsimp only at hp
                    refine ck_ivV (M' := m_Rd_expect) (As := [.int 123]) k_Rd_readProgram rfl rfl rfl rfl rfl rfl rfl (Nat.le_of_ble_eq_true rfl) (c_sp_Rd_expect  hy9) ?_
                    refine ck_p (L' := [some (.ref a), some (.int y2.1), some (.int y4.1), some (.int y8.1), none, none]) (st' := [.ref a]) k_Rd_readProgram rfl rfl ?_
                    cases hy10 : rb 20 y9 with
                    | none =>
                      rw [hy10] at hp
                      cases hp
                    | some y10 =>
                      rw [hy10] at hp
                      try dsimp only at hp
                      refine ck_ivB (M' := m_Rd_readBeside) (As := []) k_Rd_readProgram rfl rfl rfl rfl rfl rfl rfl (Nat.le_of_ble_eq_true rfl) (c_rb 20 _ _ _ (by omega) hy10) (fun hby10 => ?_)
                      refine ck_p (L' := [some (.ref a), some (.int y2.1), some (.int y4.1), some (.int y8.1), some (va_rf y10.1), none]) (st' := []) k_Rd_readProgram rfl (by cases y10.1 <;> rfl) ?_
                      refine ck_p (L' := [some (.ref a), some (.int y2.1), some (.int y4.1), some (.int y8.1), some (va_rf y10.1), none]) (st' := [.ref a]) k_Rd_readProgram rfl rfl ?_
                      refine ck_p (L' := [some (.ref a), some (.int y2.1), some (.int y4.1), some (.int y8.1), some (va_rf y10.1), none]) (st' := [.int 125, .ref a]) k_Rd_readProgram rfl rfl ?_
                      cases hy11 : sp_Rd_expect  125 y10.2 with
                      | none =>
                        rw [hy11] at hp
                        cases hp
                      | some y11 =>
                        rw [hy11] at hp
                        try dsimp only at hp
                        refine ck_ivV (M' := m_Rd_expect) (As := [.int 125]) k_Rd_readProgram rfl rfl rfl rfl rfl rfl rfl (Nat.le_of_ble_eq_true rfl) (c_sp_Rd_expect  hy11) ?_
                        refine ck_p (L' := [some (.ref a), some (.int y2.1), some (.int y4.1), some (.int y8.1), some (va_rf y10.1), none]) (st' := [.ref a]) k_Rd_readProgram rfl rfl ?_
                        refine ck_g k_Rd_readProgram rfl rfl rfl rfl ?_
                        refine ck_p (L' := [some (.ref a), some (.int y2.1), some (.int y4.1), some (.int y8.1), some (va_rf y10.1), none]) (st' := [.ref a, .ref (A 5)]) k_Rd_readProgram rfl rfl ?_
                        refine ck_g k_Rd_readProgram rfl rfl rfl rfl ?_
                        refine ck_p (L' := [some (.ref a), some (.int y2.1), some (.int y4.1), some (.int y8.1), some (va_rf y10.1), none]) (st' := [.int 30, .int (y11.1 16), .ref (A 5)]) k_Rd_readProgram rfl rfl ?_
                        refine ck_mn k_Rd_readProgram rfl rfl rfl (Nat.le_of_ble_eq_true rfl) ?_
                        cases hy12 : sp_Arrays_copyOf_5 (q_min (y11.1 16) 30) y11 with
                        | none =>
                          rw [hy12] at hp
                          cases hp
                        | some y12 =>
                          rw [hy12] at hp
                          try dsimp only at hp
                          refine ck_isB (M' := m_Arrays_copyOf) (As := [.ref (A 5), .int (q_min (y11.1 16) 30)]) k_Rd_readProgram rfl rfl rfl rfl rfl rfl (Nat.le_of_ble_eq_true rfl) (c_sp_Arrays_copyOf_5 hy12) (fun hby12 => ?_)
                          refine ck_p (L' := [some (.ref a), some (.int y2.1), some (.int y4.1), some (.int y8.1), some (va_rf y10.1), some (va_rf y12.1)]) (st' := []) k_Rd_readProgram rfl (by cases y10.1 <;> cases y12.1 <;> rfl) ?_
                          refine ck_nw k_Rd_readProgram rfl rfl rfl rfl rfl rfl ?_
                          refine ck_p (L' := [some (.ref a), some (.int y2.1), some (.int y4.1), some (.int y8.1), some (va_rf y10.1), some (va_rf y12.1)]) (st' := [.ref y12.2.2.2.2.2.1, .ref y12.2.2.2.2.2.1]) k_Rd_readProgram rfl rfl ?_
                          refine ck_p (L' := [some (.ref a), some (.int y2.1), some (.int y4.1), some (.int y8.1), some (va_rf y10.1), some (va_rf y12.1)]) (st' := [.int y2.1, .ref y12.2.2.2.2.2.1, .ref y12.2.2.2.2.2.1]) k_Rd_readProgram rfl rfl ?_
                          refine ck_p (L' := [some (.ref a), some (.int y2.1), some (.int y4.1), some (.int y8.1), some (va_rf y10.1), some (va_rf y12.1)]) (st' := [.int y4.1, .int y2.1, .ref y12.2.2.2.2.2.1, .ref y12.2.2.2.2.2.1]) k_Rd_readProgram rfl rfl ?_
                          refine ck_p (L' := [some (.ref a), some (.int y2.1), some (.int y4.1), some (.int y8.1), some (va_rf y10.1), some (va_rf y12.1)]) (st' := [.int y8.1, .int y4.1, .int y2.1, .ref y12.2.2.2.2.2.1, .ref y12.2.2.2.2.2.1]) k_Rd_readProgram rfl rfl ?_
                          refine ck_p (L' := [some (.ref a), some (.int y2.1), some (.int y4.1), some (.int y8.1), some (va_rf y10.1), some (va_rf y12.1)]) (st' := [va_rf y10.1, .int y8.1, .int y4.1, .int y2.1, .ref y12.2.2.2.2.2.1, .ref y12.2.2.2.2.2.1]) k_Rd_readProgram rfl (by cases y10.1 <;> rfl) ?_
                          refine ck_p (L' := [some (.ref a), some (.int y2.1), some (.int y4.1), some (.int y8.1), some (va_rf y10.1), some (va_rf y12.1)]) (st' := [va_rf y12.1, va_rf y10.1, .int y8.1, .int y4.1, .int y2.1, .ref y12.2.2.2.2.2.1, .ref y12.2.2.2.2.2.1]) k_Rd_readProgram rfl (by cases y12.1 <;> rfl) ?_
                          cases hy13 : sp_Prog_init  y12.2.2.2.2.2.1 y2.1 y4.1 y8.1 y10.1 y12.1 (y12.2.1, y12.2.2.1, y12.2.2.2.1, (eset y12.2.2.2.2.1 y12.2.2.2.2.2.1 (.inr (3, gx_def gx_kd3))), (y12.2.2.2.2.2.1 + 1), (y12.2.2.2.2.2.2 + 5)) with
                          | none =>
                            rw [hy13] at hp
                            cases hp
                          | some y13 =>
                            rw [hy13] at hp
                            try dsimp only at hp
                            refine ck_inV (M' := m_Prog_init) (As := [.int y2.1, .int y4.1, .int y8.1, va_rf y10.1, va_rf y12.1]) k_Rd_readProgram rfl rfl rfl rfl rfl rfl (Nat.le_of_ble_eq_true rfl) (c_sp_Prog_init  hy13) ?_
                            cases hp
                            exact ck_ret (v := some (va_rf (some y12.2.2.2.2.2.1))) k_Rd_readProgram rfl rfl trivial rfl ⟨rfl, rfl⟩
              · skip
                rw [if_pos (show y6.1 = 0 from h7)] at hp
                refine ck_p (L' := [some (.ref a), some (.int y2.1), some (.int y4.1), none, none, none]) (st' := [.ref a]) k_Rd_readProgram rfl rfl ?_
                cases hy14 : sp_Rd_refuse   y6.2 with
                | none =>
                  rw [hy14] at hp
                  cases hp
                | some y14 =>
                  rw [hy14] at hp
                  try dsimp only at hp
                  refine ck_ivV (M' := m_Rd_refuse) (As := []) k_Rd_readProgram rfl rfl rfl rfl rfl rfl rfl (Nat.le_of_ble_eq_true rfl) (c_sp_Rd_refuse  hy14) ?_
                  refine ck_p (L' := [some (.ref a), some (.int y2.1), some (.int y4.1), none, none, none]) (st' := [.ref a]) k_Rd_readProgram rfl rfl ?_
                  cases hy15 : sp_Rd_readSignals   y14 with
                  | none =>
                    rw [hy15] at hp
                    cases hp
                  | some y15 =>
                    rw [hy15] at hp
                    try dsimp only at hp
                    refine ck_ivB (M' := m_Rd_readSignals) (As := []) k_Rd_readProgram rfl rfl rfl rfl rfl rfl rfl (Nat.le_of_ble_eq_true rfl) (c_sp_Rd_readSignals  hy15) (fun hby15 => ?_)
                    refine ck_p (L' := [some (.ref a), some (.int y2.1), some (.int y4.1), some (.int y15.1), none, none]) (st' := []) k_Rd_readProgram rfl rfl ?_
                    refine ck_p (L' := [some (.ref a), some (.int y2.1), some (.int y4.1), some (.int y15.1), none, none]) (st' := [.ref a]) k_Rd_readProgram rfl rfl ?_
                    refine ck_p (L' := [some (.ref a), some (.int y2.1), some (.int y4.1), some (.int y15.1), none, none]) (st' := [.int 123, .ref a]) k_Rd_readProgram rfl rfl ?_
                    cases hy16 : sp_Rd_expect  123 y15.2 with
                    | none =>
                      rw [hy16] at hp
                      cases hp
                    | some y16 =>
                      rw [hy16] at hp
                      try dsimp only at hp
                      refine ck_ivV (M' := m_Rd_expect) (As := [.int 123]) k_Rd_readProgram rfl rfl rfl rfl rfl rfl rfl (Nat.le_of_ble_eq_true rfl) (c_sp_Rd_expect  hy16) ?_
                      refine ck_p (L' := [some (.ref a), some (.int y2.1), some (.int y4.1), some (.int y15.1), none, none]) (st' := [.ref a]) k_Rd_readProgram rfl rfl ?_
                      cases hy17 : rb 20 y16 with
                      | none =>
                        rw [hy17] at hp
                        cases hp
                      | some y17 =>
                        rw [hy17] at hp
                        try dsimp only at hp
                        refine ck_ivB (M' := m_Rd_readBeside) (As := []) k_Rd_readProgram rfl rfl rfl rfl rfl rfl rfl (Nat.le_of_ble_eq_true rfl) (c_rb 20 _ _ _ (by omega) hy17) (fun hby17 => ?_)
                        refine ck_p (L' := [some (.ref a), some (.int y2.1), some (.int y4.1), some (.int y15.1), some (va_rf y17.1), none]) (st' := []) k_Rd_readProgram rfl (by cases y17.1 <;> rfl) ?_
                        refine ck_p (L' := [some (.ref a), some (.int y2.1), some (.int y4.1), some (.int y15.1), some (va_rf y17.1), none]) (st' := [.ref a]) k_Rd_readProgram rfl rfl ?_
                        refine ck_p (L' := [some (.ref a), some (.int y2.1), some (.int y4.1), some (.int y15.1), some (va_rf y17.1), none]) (st' := [.int 125, .ref a]) k_Rd_readProgram rfl rfl ?_
                        cases hy18 : sp_Rd_expect  125 y17.2 with
                        | none =>
                          rw [hy18] at hp
                          cases hp
                        | some y18 =>
                          rw [hy18] at hp
                          try dsimp only at hp
                          refine ck_ivV (M' := m_Rd_expect) (As := [.int 125]) k_Rd_readProgram rfl rfl rfl rfl rfl rfl rfl (Nat.le_of_ble_eq_true rfl) (c_sp_Rd_expect  hy18) ?_
                          refine ck_p (L' := [some (.ref a), some (.int y2.1), some (.int y4.1), some (.int y15.1), some (va_rf y17.1), none]) (st' := [.ref a]) k_Rd_readProgram rfl rfl ?_
                          refine ck_g k_Rd_readProgram rfl rfl rfl rfl ?_
                          refine ck_p (L' := [some (.ref a), some (.int y2.1), some (.int y4.1), some (.int y15.1), some (va_rf y17.1), none]) (st' := [.ref a, .ref (A 5)]) k_Rd_readProgram rfl rfl ?_
                          refine ck_g k_Rd_readProgram rfl rfl rfl rfl ?_
                          refine ck_p (L' := [some (.ref a), some (.int y2.1), some (.int y4.1), some (.int y15.1), some (va_rf y17.1), none]) (st' := [.int 30, .int (y18.1 16), .ref (A 5)]) k_Rd_readProgram rfl rfl ?_
                          refine ck_mn k_Rd_readProgram rfl rfl rfl (Nat.le_of_ble_eq_true rfl) ?_
                          cases hy19 : sp_Arrays_copyOf_5 (q_min (y18.1 16) 30) y18 with
                          | none =>
                            rw [hy19] at hp
                            cases hp
                          | some y19 =>
                            rw [hy19] at hp
                            try dsimp only at hp
                            refine ck_isB (M' := m_Arrays_copyOf) (As := [.ref (A 5), .int (q_min (y18.1 16) 30)]) k_Rd_readProgram rfl rfl rfl rfl rfl rfl (Nat.le_of_ble_eq_true rfl) (c_sp_Arrays_copyOf_5 hy19) (fun hby19 => ?_)
                            refine ck_p (L' := [some (.ref a), some (.int y2.1), some (.int y4.1), some (.int y15.1), some (va_rf y17.1), some (va_rf y19.1)]) (st' := []) k_Rd_readProgram rfl (by cases y17.1 <;> cases y19.1 <;> rfl) ?_
                            refine ck_nw k_Rd_readProgram rfl rfl rfl rfl rfl rfl ?_
                            refine ck_p (L' := [some (.ref a), some (.int y2.1), some (.int y4.1), some (.int y15.1), some (va_rf y17.1), some (va_rf y19.1)]) (st' := [.ref y19.2.2.2.2.2.1, .ref y19.2.2.2.2.2.1]) k_Rd_readProgram rfl rfl ?_
                            refine ck_p (L' := [some (.ref a), some (.int y2.1), some (.int y4.1), some (.int y15.1), some (va_rf y17.1), some (va_rf y19.1)]) (st' := [.int y2.1, .ref y19.2.2.2.2.2.1, .ref y19.2.2.2.2.2.1]) k_Rd_readProgram rfl rfl ?_
                            refine ck_p (L' := [some (.ref a), some (.int y2.1), some (.int y4.1), some (.int y15.1), some (va_rf y17.1), some (va_rf y19.1)]) (st' := [.int y4.1, .int y2.1, .ref y19.2.2.2.2.2.1, .ref y19.2.2.2.2.2.1]) k_Rd_readProgram rfl rfl ?_
                            refine ck_p (L' := [some (.ref a), some (.int y2.1), some (.int y4.1), some (.int y15.1), some (va_rf y17.1), some (va_rf y19.1)]) (st' := [.int y15.1, .int y4.1, .int y2.1, .ref y19.2.2.2.2.2.1, .ref y19.2.2.2.2.2.1]) k_Rd_readProgram rfl rfl ?_
                            refine ck_p (L' := [some (.ref a), some (.int y2.1), some (.int y4.1), some (.int y15.1), some (va_rf y17.1), some (va_rf y19.1)]) (st' := [va_rf y17.1, .int y15.1, .int y4.1, .int y2.1, .ref y19.2.2.2.2.2.1, .ref y19.2.2.2.2.2.1]) k_Rd_readProgram rfl (by cases y17.1 <;> rfl) ?_
                            refine ck_p (L' := [some (.ref a), some (.int y2.1), some (.int y4.1), some (.int y15.1), some (va_rf y17.1), some (va_rf y19.1)]) (st' := [va_rf y19.1, va_rf y17.1, .int y15.1, .int y4.1, .int y2.1, .ref y19.2.2.2.2.2.1, .ref y19.2.2.2.2.2.1]) k_Rd_readProgram rfl (by cases y19.1 <;> rfl) ?_
                            cases hy20 : sp_Prog_init  y19.2.2.2.2.2.1 y2.1 y4.1 y15.1 y17.1 y19.1 (y19.2.1, y19.2.2.1, y19.2.2.2.1, (eset y19.2.2.2.2.1 y19.2.2.2.2.2.1 (.inr (3, gx_def gx_kd3))), (y19.2.2.2.2.2.1 + 1), (y19.2.2.2.2.2.2 + 5)) with
                            | none =>
                              rw [hy20] at hp
                              cases hp
                            | some y20 =>
                              rw [hy20] at hp
                              try dsimp only at hp
                              refine ck_inV (M' := m_Prog_init) (As := [.int y2.1, .int y4.1, .int y15.1, va_rf y17.1, va_rf y19.1]) k_Rd_readProgram rfl rfl rfl rfl rfl rfl (Nat.le_of_ble_eq_true rfl) (c_sp_Prog_init  hy20) ?_
                              cases hp
                              exact ck_ret (v := some (va_rf (some y19.2.2.2.2.2.1))) k_Rd_readProgram rfl rfl trivial rfl ⟨rfl, rfl⟩
def sp_Rd_readText_35   : Nat → Int32 → ck_S → Option (Int32 × ck_S)
  | 0, _, _ => none
  | m + 1, v1, σ => (if (6 : Int32) ≤ v1 then (match sp_Rd_peek   σ with
  | none => none
  | some y3 => (if y3.1 = (-1) then some (v1, y3.2) else (match sp_Rd_refuse   y3.2 with
  | none => none
  | some y5 => some (v1, y5)))) else (if v1 = 0 then (match sp_Rd_readProgram   σ with
  | none => none
  | some y7 => (match (σ.2.2.1 0) with
  | none => none
  | some b8 => (match es y7.2.2.2.2.1 b8 4 3 v1 y7.1 with
  | none => none
  | some y9 => sp_Rd_readText_35    m (v1 + 1) (y7.2.1, y7.2.2.1, y7.2.2.2.1, y9, y7.2.2.2.2.2.1, y7.2.2.2.2.2.2)))) else (match sp_Rd_peek   σ with
  | none => none
  | some y10 => (if y10.1 = (-1) then (match sp_Rd_peek   y10.2 with
  | none => none
  | some y12 => (if y12.1 = (-1) then some (v1, y12.2) else (match sp_Rd_refuse   y12.2 with
  | none => none
  | some y14 => some (v1, y14)))) else (match sp_Rd_readProgram   y10.2 with
  | none => none
  | some y15 => (match (y10.2.2.2.1 0) with
  | none => none
  | some b16 => (match es y15.2.2.2.2.1 b16 4 3 v1 y15.1 with
  | none => none
  | some y17 => sp_Rd_readText_35    m (v1 + 1) (y15.2.1, y15.2.2.1, y15.2.2.2.1, y17, y15.2.2.2.2.2.1, y15.2.2.2.2.2.2))))))))
theorem c_sp_Rd_readText_35  {r : Int32 × ck_S} : ∀ (m : Nat) (v1 : Int32) (σ : ck_S), sp_Rd_readText_35   m v1 σ = some r → ck_Go l F (d + 162) m_Rd_readText rd_K a A 35 ([some (.ref a), some (.int v1)]) [] σ (fun w σ' => w = some (.int r.1) ∧ σ' = r.2) := by
  intro m
  induction m with
  | zero => intro v1 σ hp; cases hp
  | succ m ihm =>
    intro v1 σ hp
    unfold sp_Rd_readText_35 at hp
    refine ck_p (L' := [some (.ref a), some (.int v1)]) (st' := [.int v1]) k_Rd_readText rfl rfl ?_
    refine ck_p (L' := [some (.ref a), some (.int v1)]) (st' := [.int 6, .int v1]) k_Rd_readText rfl rfl ?_
    refine ck_ic k_Rd_readText rfl rfl rfl (fun h2 => ?_) (fun h2 => ?_)
    · skip
      rw [if_pos (show (6 : Int32) ≤ v1 from h2)] at hp
      refine ck_p (L' := [some (.ref a), some (.int v1)]) (st' := [.ref a]) k_Rd_readText rfl rfl ?_
      cases hy3 : sp_Rd_peek   σ with
      | none =>
        rw [hy3] at hp
        cases hp
      | some y3 =>
        rw [hy3] at hp
        try dsimp only at hp
        refine ck_ivB (M' := m_Rd_peek) (As := []) k_Rd_readText rfl rfl rfl rfl rfl rfl rfl (Nat.le_of_ble_eq_true rfl) (c_sp_Rd_peek  hy3) (fun hby3 => ?_)
        refine ck_p (L' := [some (.ref a), some (.int v1)]) (st' := [.int (-1), .int y3.1]) k_Rd_readText rfl rfl ?_
        refine ck_ic k_Rd_readText rfl rfl rfl (fun h4 => ?_) (fun h4 => ?_)
        · skip
          rw [if_pos (show y3.1 = (-1) from h4)] at hp
          refine ck_p (L' := [some (.ref a), some (.int v1)]) (st' := [.int v1]) k_Rd_readText rfl rfl ?_
          cases hp
          exact ck_ret (v := some (.int _)) k_Rd_readText rfl rfl trivial rfl ⟨rfl, rfl⟩
        · skip
          rw [if_neg (show ¬ (y3.1 = (-1)) from h4)] at hp
          refine ck_p (L' := [some (.ref a), some (.int v1)]) (st' := [.ref a]) k_Rd_readText rfl rfl ?_
          cases hy5 : sp_Rd_refuse   y3.2 with
          | none =>
            rw [hy5] at hp
            cases hp
          | some y5 =>
            rw [hy5] at hp
            try dsimp only at hp
            refine ck_ivV (M' := m_Rd_refuse) (As := []) k_Rd_readText rfl rfl rfl rfl rfl rfl rfl (Nat.le_of_ble_eq_true rfl) (c_sp_Rd_refuse  hy5) ?_
            refine ck_p (L' := [some (.ref a), some (.int v1)]) (st' := [.int v1]) k_Rd_readText rfl rfl ?_
            cases hp
            exact ck_ret (v := some (.int _)) k_Rd_readText rfl rfl trivial rfl ⟨rfl, rfl⟩
    · skip
      rw [if_neg (show ¬ ((6 : Int32) ≤ v1) from h2)] at hp
      refine ck_p (L' := [some (.ref a), some (.int v1)]) (st' := [.int v1]) k_Rd_readText rfl rfl ?_
      refine ck_if k_Rd_readText rfl rfl rfl (fun h6 => ?_) (fun h6 => ?_)
      · skip
        rw [if_pos (show v1 = 0 from h6)] at hp
        refine ck_p (L' := [some (.ref a), some (.int v1)]) (st' := [.ref a]) k_Rd_readText rfl rfl ?_
        refine ck_g k_Rd_readText rfl rfl rfl rfl ?_
        refine ck_p (L' := [some (.ref a), some (.int v1)]) (st' := [.int v1, va_rf (σ.2.2.1 0)]) k_Rd_readText rfl rfl ?_
        refine ck_p (L' := [some (.ref a), some (.int v1)]) (st' := [.ref a, .int v1, va_rf (σ.2.2.1 0)]) k_Rd_readText rfl rfl ?_
        cases hy7 : sp_Rd_readProgram   σ with
        | none =>
          rw [hy7] at hp
          cases hp
        | some y7 =>
          rw [hy7] at hp
          try dsimp only at hp
          refine ck_ivB (M' := m_Rd_readProgram) (As := []) k_Rd_readText rfl rfl rfl rfl rfl rfl rfl (by cases (σ.2.2.1 0) <;> exact (Nat.le_of_ble_eq_true rfl)) (c_sp_Rd_readProgram  hy7) (fun hby7 => ?_)
          cases hb8 : (σ.2.2.1 0) with
          | none =>
            rw [hb8] at hp
            try dsimp only at hp
            cases hp
          | some b8 =>
            rw [hb8] at hp
            try dsimp only at hp
            cases hy9 : es y7.2.2.2.2.1 b8 4 3 v1 y7.1 with
            | none =>
              rw [hy9] at hp
              cases hp
            | some y9 =>
              rw [hy9] at hp
              try dsimp only at hp
              refine ck_sr (v := y7.1) k_Rd_readText rfl rfl rfl rfl hy9 ?_
              refine ck_p (L' := [some (.ref a), some (.int (v1 + 1))]) (st' := []) k_Rd_readText rfl rfl ?_
              refine ck_j k_Rd_readText rfl rfl ?_
              exact ihm _ _ hp
      · skip
        rw [if_neg (show ¬ (v1 = 0) from h6)] at hp
        refine ck_p (L' := [some (.ref a), some (.int v1)]) (st' := [.ref a]) k_Rd_readText rfl rfl ?_
        cases hy10 : sp_Rd_peek   σ with
        | none =>
          rw [hy10] at hp
          cases hp
        | some y10 =>
          rw [hy10] at hp
          try dsimp only at hp
          refine ck_ivB (M' := m_Rd_peek) (As := []) k_Rd_readText rfl rfl rfl rfl rfl rfl rfl (Nat.le_of_ble_eq_true rfl) (c_sp_Rd_peek  hy10) (fun hby10 => ?_)
          refine ck_p (L' := [some (.ref a), some (.int v1)]) (st' := [.int (-1), .int y10.1]) k_Rd_readText rfl rfl ?_
          refine ck_ic k_Rd_readText rfl rfl rfl (fun h11 => ?_) (fun h11 => ?_)
          · skip
            rw [if_pos (show y10.1 = (-1) from h11)] at hp
            refine ck_p (L' := [some (.ref a), some (.int v1)]) (st' := [.ref a]) k_Rd_readText rfl rfl ?_
            cases hy12 : sp_Rd_peek   y10.2 with
            | none =>
              rw [hy12] at hp
              cases hp
            | some y12 =>
              rw [hy12] at hp
              try dsimp only at hp
              refine ck_ivB (M' := m_Rd_peek) (As := []) k_Rd_readText rfl rfl rfl rfl rfl rfl rfl (Nat.le_of_ble_eq_true rfl) (c_sp_Rd_peek  hy12) (fun hby12 => ?_)
              refine ck_p (L' := [some (.ref a), some (.int v1)]) (st' := [.int (-1), .int y12.1]) k_Rd_readText rfl rfl ?_
              refine ck_ic k_Rd_readText rfl rfl rfl (fun h13 => ?_) (fun h13 => ?_)
              · skip
                rw [if_pos (show y12.1 = (-1) from h13)] at hp
                refine ck_p (L' := [some (.ref a), some (.int v1)]) (st' := [.int v1]) k_Rd_readText rfl rfl ?_
                cases hp
                exact ck_ret (v := some (.int _)) k_Rd_readText rfl rfl trivial rfl ⟨rfl, rfl⟩
              · skip
                rw [if_neg (show ¬ (y12.1 = (-1)) from h13)] at hp
                refine ck_p (L' := [some (.ref a), some (.int v1)]) (st' := [.ref a]) k_Rd_readText rfl rfl ?_
                cases hy14 : sp_Rd_refuse   y12.2 with
                | none =>
                  rw [hy14] at hp
                  cases hp
                | some y14 =>
                  rw [hy14] at hp
                  try dsimp only at hp
                  refine ck_ivV (M' := m_Rd_refuse) (As := []) k_Rd_readText rfl rfl rfl rfl rfl rfl rfl (Nat.le_of_ble_eq_true rfl) (c_sp_Rd_refuse  hy14) ?_
                  refine ck_p (L' := [some (.ref a), some (.int v1)]) (st' := [.int v1]) k_Rd_readText rfl rfl ?_
                  cases hp
                  exact ck_ret (v := some (.int _)) k_Rd_readText rfl rfl trivial rfl ⟨rfl, rfl⟩
          · skip
            rw [if_neg (show ¬ (y10.1 = (-1)) from h11)] at hp
            refine ck_p (L' := [some (.ref a), some (.int v1)]) (st' := [.ref a]) k_Rd_readText rfl rfl ?_
            refine ck_g k_Rd_readText rfl rfl rfl rfl ?_
            refine ck_p (L' := [some (.ref a), some (.int v1)]) (st' := [.int v1, va_rf (y10.2.2.2.1 0)]) k_Rd_readText rfl rfl ?_
            refine ck_p (L' := [some (.ref a), some (.int v1)]) (st' := [.ref a, .int v1, va_rf (y10.2.2.2.1 0)]) k_Rd_readText rfl rfl ?_
            cases hy15 : sp_Rd_readProgram   y10.2 with
            | none =>
              rw [hy15] at hp
              cases hp
            | some y15 =>
              rw [hy15] at hp
              try dsimp only at hp
              refine ck_ivB (M' := m_Rd_readProgram) (As := []) k_Rd_readText rfl rfl rfl rfl rfl rfl rfl (by cases (y10.2.2.2.1 0) <;> exact (Nat.le_of_ble_eq_true rfl)) (c_sp_Rd_readProgram  hy15) (fun hby15 => ?_)
              cases hb16 : (y10.2.2.2.1 0) with
              | none =>
                rw [hb16] at hp
                try dsimp only at hp
                cases hp
              | some b16 =>
                rw [hb16] at hp
                try dsimp only at hp
                cases hy17 : es y15.2.2.2.2.1 b16 4 3 v1 y15.1 with
                | none =>
                  rw [hy17] at hp
                  cases hp
                | some y17 =>
                  rw [hy17] at hp
                  try dsimp only at hp
                  refine ck_sr (v := y15.1) k_Rd_readText rfl rfl rfl rfl hy17 ?_
                  refine ck_p (L' := [some (.ref a), some (.int (v1 + 1))]) (st' := []) k_Rd_readText rfl rfl ?_
                  refine ck_j k_Rd_readText rfl rfl ?_
                  exact ihm _ _ hp
def sp_Rd_readText   (σ : ck_S) : Option (Int32 × ck_S) := (match sp_Arrays_fill_2  501 σ with
  | none => none
  | some y1 => sp_Rd_readText_35   2601 0 ((upd (upd (upd (upd y1.1 7 (y1.1 6)) 6 0) 8 0) 9 0), y1.2.1, y1.2.2.1, y1.2.2.2.1, y1.2.2.2.2.1, y1.2.2.2.2.2))
theorem c_sp_Rd_readText   {σ : ck_S} {r : Int32 × ck_S} (hp : sp_Rd_readText   σ = some r) : ck_Has l F (d + 162) m_Rd_readText rd_K a A [.ref a] σ (fun w σ' => w = some (.int r.1) ∧ σ' = r.2) := by
  refine ck_meth (k := 1) (L := [some (.ref a), none]) pn_Rd rfl (Nat.le_of_ble_eq_true rfl) ?_
  unfold sp_Rd_readText at hp
  refine ck_p (L' := [some (.ref a), none]) (st' := [.ref a]) k_Rd_readText rfl rfl ?_
  refine ck_g k_Rd_readText rfl rfl rfl rfl ?_
  refine ck_p (L' := [some (.ref a), none]) (st' := [.int 501, .ref (A 2)]) k_Rd_readText rfl rfl ?_
  cases hy1 : sp_Arrays_fill_2  501 σ with
  | none =>
    rw [hy1] at hp
    cases hp
  | some y1 =>
    rw [hy1] at hp
    try dsimp only at hp
    refine ck_isV (M' := m_Arrays_fill) (As := [.ref (A 2), .int 501]) k_Rd_readText rfl rfl rfl rfl rfl rfl (Nat.le_of_ble_eq_true rfl) (c_sp_Arrays_fill_2  hy1) ?_
    refine ck_p (L' := [some (.ref a), none]) (st' := [.ref a]) k_Rd_readText rfl rfl ?_
    refine ck_p (L' := [some (.ref a), none]) (st' := [.ref a, .ref a]) k_Rd_readText rfl rfl ?_
    refine ck_g k_Rd_readText rfl rfl rfl rfl ?_
    refine ck_pt k_Rd_readText rfl rfl rfl trivial (Nat.le_of_ble_eq_true rfl) rfl ?_
    refine ck_p (L' := [some (.ref a), none]) (st' := [.ref a]) k_Rd_readText rfl rfl ?_
    refine ck_p (L' := [some (.ref a), none]) (st' := [.int 0, .ref a]) k_Rd_readText rfl rfl ?_
    refine ck_pt k_Rd_readText rfl rfl rfl trivial (Nat.le_of_ble_eq_true rfl) rfl ?_
    refine ck_p (L' := [some (.ref a), none]) (st' := [.ref a]) k_Rd_readText rfl rfl ?_
    refine ck_p (L' := [some (.ref a), none]) (st' := [.int 0, .ref a]) k_Rd_readText rfl rfl ?_
    refine ck_pt k_Rd_readText rfl rfl rfl trivial (Nat.le_of_ble_eq_true rfl) rfl ?_
    refine ck_p (L' := [some (.ref a), none]) (st' := [.ref a]) k_Rd_readText rfl rfl ?_
    refine ck_p (L' := [some (.ref a), none]) (st' := [.int 0, .ref a]) k_Rd_readText rfl rfl ?_
    refine ck_pt k_Rd_readText rfl rfl rfl trivial (Nat.le_of_ble_eq_true rfl) rfl ?_
    refine ck_p (L' := [some (.ref a), none]) (st' := [.int 0]) k_Rd_readText rfl rfl ?_
    refine ck_p (L' := [some (.ref a), some (.int 0)]) (st' := []) k_Rd_readText rfl rfl ?_
    exact c_sp_Rd_readText_35   _ _ _ hp
end RP
