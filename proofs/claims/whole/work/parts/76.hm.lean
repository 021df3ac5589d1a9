def t_H_module : List (Nat × gx_I) := [(0, .aload_n 0, 1, 0, 0, 1, 0, [], gx_s0), (1, .getfield 10, 3, 0, 0, 4, 0, [0, 0, 0, 2], gx_s0), (4, .invokevirtual 67, 3, 0, 0, 7, 0, [], s_Rd_readText), (7, .istore_n 1, 1, 0, 0, 8, 0, [], gx_s0), (8, .aload_n 0, 1, 0, 0, 9, 0, [], gx_s0), (9, .aload_n 0, 1, 0, 0, 10, 0, [], gx_s0), (10, .getfield 10, 3, 0, 0, 13, 0, [0, 0, 0, 2], gx_s0), (13, .invokevirtual 71, 3, 0, 0, 16, 0, [], s_Rd_faultKind), (16, .putfield 49, 3, 0, 0, 19, 0, [0, 7, 0, 0], gx_s0), (19, .aload_n 0, 1, 0, 0, 20, 0, [], gx_s0), (20, .aload_n 0, 1, 0, 0, 21, 0, [], gx_s0), (21, .getfield 10, 3, 0, 0, 24, 0, [0, 0, 0, 2], gx_s0), (24, .invokevirtual 73, 3, 0, 0, 27, 0, [], s_Rd_faultPlace), (27, .putfield 52, 3, 0, 0, 30, 0, [0, 8, 0, 0], gx_s0), (30, .aload_n 0, 1, 0, 0, 31, 0, [], gx_s0), (31, .getfield 49, 3, 0, 0, 34, 0, [0, 7, 0, 0], gx_s0), (34, .ifCond .eq 13, 3, 0, 0, 37, 47, [], gx_s0), (47, .iconst 0, 1, 0, 0, 48, 0, [], gx_s0), (48, .istore_n 2, 1, 0, 0, 49, 0, [], gx_s0), (49, .iload_n 2, 1, 0, 0, 50, 0, [], gx_s0), (50, .bipush 6, 2, 6, 0, 52, 0, [], gx_s0), (52, .if_icmp .ge 33, 3, 0, 0, 55, 85, [], gx_s0), (55, .aload_n 0, 1, 0, 0, 56, 0, [], gx_s0), (56, .getfield 32, 3, 0, 0, 59, 0, [0, 3, 0, 2], gx_s0), (59, .iload_n 2, 1, 0, 0, 60, 0, [], gx_s0), (60, .iload_n 2, 1, 0, 0, 61, 0, [], gx_s0), (61, .iload_n 1, 1, 0, 0, 62, 0, [], gx_s0), (62, .if_icmp .ge 15, 3, 0, 0, 65, 77, [], gx_s0), (65, .aload_n 0, 1, 0, 0, 66, 0, [], gx_s0), (66, .getfield 10, 3, 0, 0, 69, 0, [0, 0, 0, 2], gx_s0), (69, .getfield 82, 3, 0, 0, 72, 0, [4, 0, 0, 2], gx_s0), (72, .iload_n 2, 1, 0, 0, 73, 0, [], gx_s0), (73, .aaload, 1, 0, 0, 74, 0, [], gx_s0), (74, .goto 4, 3, 0, 0, 77, 78, [], gx_s0), (77, .aconst_null, 1, 0, 0, 78, 0, [], gx_s0), (78, .aastore, 1, 0, 0, 79, 0, [], gx_s0), (79, .iinc 2 1, 3, 1, 0, 82, 0, [], gx_s0), (82, .goto (-33), 3, 0, 0, 85, 49, [], gx_s0), (85, .aload_n 0, 1, 0, 0, 86, 0, [], gx_s0), (86, .iload_n 1, 1, 0, 0, 87, 0, [], gx_s0), (87, .putfield 42, 3, 0, 0, 90, 0, [0, 5, 0, 0], gx_s0), (90, .aload_n 0, 1, 0, 0, 91, 0, [], gx_s0), (91, .iconst 0, 1, 0, 0, 92, 0, [], gx_s0), (92, .putfield 46, 3, 0, 0, 95, 0, [0, 6, 0, 0], gx_s0), (95, .iload_n 1, 1, 0, 0, 96, 0, [], gx_s0), (96, .ireturn, 1, 0, 0, 97, 0, [], gx_s0)]
def m_H_module : gx_M := (s_H_module, t_H_module)
set_option maxRecDepth 100000 in
theorem k_H_module : gx_ok m_H_module := ⟨by decide +kernel, gx_cons trivial (gx_cons ⟨gx_c0, _, rfl, Nat.le_of_ble_eq_true rfl, pf_0_0, rfl, Or.inl ⟨rfl, wt_245⟩⟩ (gx_cons ⟨cb_Rd_readText, Or.inl wt_514, wt_515, wt_516⟩ (gx_cons trivial (gx_cons trivial (gx_cons trivial (gx_cons ⟨gx_c0, _, rfl, Nat.le_of_ble_eq_true rfl, pf_0_0, rfl, Or.inl ⟨rfl, wt_245⟩⟩ (gx_cons ⟨cb_Rd_faultKind, Or.inl wt_690, wt_691, wt_692⟩ (gx_cons ⟨⟨gx_c0, _, rfl, Nat.le_of_ble_eq_true rfl, pf_0_7, rfl, Or.inl ⟨rfl, wt_252⟩⟩, gx_c0, rfl, Or.inl rfl⟩ (gx_cons trivial (gx_cons trivial (gx_cons ⟨gx_c0, _, rfl, Nat.le_of_ble_eq_true rfl, pf_0_0, rfl, Or.inl ⟨rfl, wt_245⟩⟩ (gx_cons ⟨cb_Rd_faultPlace, Or.inl wt_694, wt_695, wt_696⟩ (gx_cons ⟨⟨gx_c0, _, rfl, Nat.le_of_ble_eq_true rfl, pf_0_8, rfl, Or.inl ⟨rfl, wt_253⟩⟩, gx_c0, rfl, Or.inl rfl⟩ (gx_cons trivial (gx_cons ⟨gx_c0, _, rfl, Nat.le_of_ble_eq_true rfl, pf_0_7, rfl, Or.inl ⟨rfl, wt_252⟩⟩ (gx_cons trivial (gx_cons trivial (gx_cons trivial (gx_cons trivial (gx_cons trivial (gx_cons trivial (gx_cons trivial (gx_cons ⟨gx_c0, _, rfl, Nat.le_of_ble_eq_true rfl, pf_0_3, rfl, Or.inl ⟨rfl, wt_248⟩⟩ (gx_cons trivial (gx_cons trivial (gx_cons trivial (gx_cons trivial (gx_cons trivial (gx_cons ⟨gx_c0, _, rfl, Nat.le_of_ble_eq_true rfl, pf_0_0, rfl, Or.inl ⟨rfl, wt_245⟩⟩ (gx_cons ⟨gx_c4, _, rfl, Nat.le_of_ble_eq_true rfl, pf_4_0, rfl, Or.inl ⟨rfl, wt_145⟩⟩ (gx_cons trivial (gx_cons trivial (gx_cons trivial (gx_cons trivial (gx_cons trivial (gx_cons trivial (gx_cons trivial (gx_cons trivial (gx_cons trivial (gx_cons ⟨⟨gx_c0, _, rfl, Nat.le_of_ble_eq_true rfl, pf_0_5, rfl, Or.inl ⟨rfl, wt_250⟩⟩, gx_c0, rfl, Or.inl rfl⟩ (gx_cons trivial (gx_cons trivial (gx_cons ⟨⟨gx_c0, _, rfl, Nat.le_of_ble_eq_true rfl, pf_0_6, rfl, Or.inl ⟨rfl, wt_251⟩⟩, gx_c0, rfl, Or.inl rfl⟩ (gx_cons trivial (gx_cons trivial gx_nil)))))))))))))))))))))))))))))))))))))))))))))⟩
section HM
variable {l : Launch} {F : gx_F} {d : Nat} {K : ck_K} {a : Nat} {A : Nat → Nat} {P : Option Value → ck_S → Prop}
noncomputable def sp_H_module_49   : Nat → Int32 → Int32 → ck_S → Option (Int32 × ck_S)
  | 0, _, _, _ => none
  | m + 1, v1, v2, σ => (if (6 : Int32) ≤ v2 then some (v1, ((upd (upd σ.1 5 v1) 6 0), σ.2.1, σ.2.2.1, σ.2.2.2.1, σ.2.2.2.2.1, σ.2.2.2.2.2)) else (if v1 ≤ v2 then (match (σ.2.2.1 3) with
  | none => none
  | some b13 => (match es σ.2.2.2.1 b13 4 3 v2 none with
  | none => none
  | some y14 => sp_H_module_49    m v1 (v2 + 1) (σ.1, σ.2.1, σ.2.2.1, y14, σ.2.2.2.2.1, σ.2.2.2.2.2))) else (match (σ.2.2.1 0) with
  | none => none
  | some b15 => (match egR σ.2.2.2.1 b15 4 0 with
  | none => none
  | some y16 => (match y16 with
  | none => none
  | some b17 => (match er σ.2.2.2.1 b17 4 v2 with
  | none => none
  | some y18 => (match (σ.2.2.1 3) with
  | none => none
  | some b19 => (match es σ.2.2.2.1 b19 4 3 v2 y18 with
  | none => none
  | some y20 => sp_H_module_49    m v1 (v2 + 1) (σ.1, σ.2.1, σ.2.2.1, y20, σ.2.2.2.2.1, σ.2.2.2.2.2)))))))))
theorem c_sp_H_module_49  {r : Int32 × ck_S} : ∀ (m : Nat) (v1 : Int32) (v2 : Int32) (σ : ck_S), sp_H_module_49   m v1 v2 σ = some r → ck_Go l F (d + 163) m_H_module h_K a A 49 ([some (.ref a), some (.int v1), some (.int v2)]) [] σ (fun w σ' => w = some (.int r.1) ∧ σ' = r.2) := by
  intro m
  induction m with
  | zero => intro v1 v2 σ hp; cases hp
  | succ m ihm =>
    intro v1 v2 σ hp
    unfold sp_H_module_49 at hp
    refine ck_p (L' := [some (.ref a), some (.int v1), some (.int v2)]) (st' := [.int v2]) k_H_module rfl rfl ?_
    refine ck_p (L' := [some (.ref a), some (.int v1), some (.int v2)]) (st' := [.int 6, .int v2]) k_H_module rfl rfl ?_
    refine ck_ic k_H_module rfl rfl rfl (fun h11 => ?_) (fun h11 => ?_)
    · skip
      rw [if_pos (show (6 : Int32) ≤ v2 from h11)] at hp
      refine ck_p (L' := [some (.ref a), some (.int v1), some (.int v2)]) (st' := [.ref a]) k_H_module rfl rfl ?_
      refine ck_p (L' := [some (.ref a), some (.int v1), some (.int v2)]) (st' := [.int v1, .ref a]) k_H_module rfl rfl ?_
      refine ck_pt k_H_module rfl rfl rfl trivial (Nat.le_of_ble_eq_true rfl) rfl ?_
      refine ck_p (L' := [some (.ref a), some (.int v1), some (.int v2)]) (st' := [.ref a]) k_H_module rfl rfl ?_
      refine ck_p (L' := [some (.ref a), some (.int v1), some (.int v2)]) (st' := [.int 0, .ref a]) k_H_module rfl rfl ?_
      refine ck_pt k_H_module rfl rfl rfl trivial (Nat.le_of_ble_eq_true rfl) rfl ?_
      refine ck_p (L' := [some (.ref a), some (.int v1), some (.int v2)]) (st' := [.int v1]) k_H_module rfl rfl ?_
      cases hp
      exact ck_ret (v := some (.int _)) k_H_module rfl rfl trivial rfl ⟨rfl, rfl⟩
    · skip
      rw [if_neg (show ¬ ((6 : Int32) ≤ v2) from h11)] at hp
      refine ck_p (L' := [some (.ref a), some (.int v1), some (.int v2)]) (st' := [.ref a]) k_H_module rfl rfl ?_
      refine ck_g k_H_module rfl rfl rfl rfl ?_
      refine ck_p (L' := [some (.ref a), some (.int v1), some (.int v2)]) (st' := [.int v2, va_rf (σ.2.2.1 3)]) k_H_module rfl rfl ?_
      refine ck_p (L' := [some (.ref a), some (.int v1), some (.int v2)]) (st' := [.int v2, .int v2, va_rf (σ.2.2.1 3)]) k_H_module rfl rfl ?_
      refine ck_p (L' := [some (.ref a), some (.int v1), some (.int v2)]) (st' := [.int v1, .int v2, .int v2, va_rf (σ.2.2.1 3)]) k_H_module rfl rfl ?_
      refine ck_ic k_H_module rfl rfl rfl (fun h12 => ?_) (fun h12 => ?_)
      · skip
        rw [if_pos (show v1 ≤ v2 from h12)] at hp
        refine ck_p (L' := [some (.ref a), some (.int v1), some (.int v2)]) (st' := [.null, .int v2, va_rf (σ.2.2.1 3)]) k_H_module rfl rfl ?_
        cases hb13 : (σ.2.2.1 3) with
        | none =>
          rw [hb13] at hp
          try dsimp only at hp
          cases hp
        | some b13 =>
          rw [hb13] at hp
          try dsimp only at hp
          cases hy14 : es σ.2.2.2.1 b13 4 3 v2 none with
          | none =>
            rw [hy14] at hp
            cases hp
          | some y14 =>
            rw [hy14] at hp
            try dsimp only at hp
            refine ck_sr (v := none) k_H_module rfl rfl rfl rfl hy14 ?_
            refine ck_p (L' := [some (.ref a), some (.int v1), some (.int (v2 + 1))]) (st' := []) k_H_module rfl rfl ?_
            refine ck_j k_H_module rfl rfl ?_
            exact ihm _ _ _ hp
      · skip
        rw [if_neg (show ¬ (v1 ≤ v2) from h12)] at hp
        refine ck_p (L' := [some (.ref a), some (.int v1), some (.int v2)]) (st' := [.ref a, .int v2, va_rf (σ.2.2.1 3)]) k_H_module rfl rfl ?_
        refine ck_g k_H_module rfl rfl rfl rfl ?_
        cases hb15 : (σ.2.2.1 0) with
        | none =>
          rw [hb15] at hp
          try dsimp only at hp
          cases hp
        | some b15 =>
          rw [hb15] at hp
          try dsimp only at hp
          cases hy16 : egR σ.2.2.2.1 b15 4 0 with
          | none =>
            rw [hy16] at hp
            cases hp
          | some y16 =>
            rw [hy16] at hp
            try dsimp only at hp
            refine ck_gE k_H_module rfl rfl rfl (egR_of hy16) ?_
            refine ck_p (L' := [some (.ref a), some (.int v1), some (.int v2)]) (st' := [.int v2, va_rf y16, .int v2, va_rf (σ.2.2.1 3)]) k_H_module rfl rfl ?_
            cases y16 with
            | none =>
              try dsimp only at hp
              cases hp
            | some b17 =>
              try dsimp only at hp
              cases hy18 : er σ.2.2.2.1 b17 4 v2 with
              | none =>
                rw [hy18] at hp
                cases hp
              | some y18 =>
                rw [hy18] at hp
                try dsimp only at hp
                refine ck_lr k_H_module rfl rfl rfl hy18 ?_
                refine ck_j k_H_module rfl rfl ?_
                cases hb19 : (σ.2.2.1 3) with
                | none =>
                  rw [hb19] at hp
                  try dsimp only at hp
                  cases hp
                | some b19 =>
                  rw [hb19] at hp
                  try dsimp only at hp
                  cases hy20 : es σ.2.2.2.1 b19 4 3 v2 y18 with
                  | none =>
                    rw [hy20] at hp
                    cases hp
                  | some y20 =>
                    rw [hy20] at hp
                    try dsimp only at hp
                    refine ck_sr (v := y18) k_H_module rfl rfl rfl rfl hy20 ?_
                    refine ck_p (L' := [some (.ref a), some (.int v1), some (.int (v2 + 1))]) (st' := []) k_H_module rfl rfl ?_
                    refine ck_j k_H_module rfl rfl ?_
                    exact ihm _ _ _ hp
noncomputable def sp_H_module   (σ : ck_S) : Option (Int32 × ck_S) := (match (σ.2.2.1 0) with
  | none => none
  | some b1 => (if eo σ.2.2.2.1 b1 4 = true then (match sp_in rd_K b1 (sp_Rd_readText  ) σ with
  | none => none
  | some y3 => (match (y3.2.2.2.1 0) with
  | none => none
  | some b4 => (if eo y3.2.2.2.2.1 b4 4 = true then (match sp_in rd_K b4 (sp_Rd_faultKind  ) y3.2 with
  | none => none
  | some y6 => (match (y6.2.2.2.1 0) with
  | none => none
  | some b7 => (if eo y6.2.2.2.2.1 b7 4 = true then (match sp_in rd_K b7 (sp_Rd_faultPlace  ) ((upd y6.2.1 7 y6.1), y6.2.2.1, y6.2.2.2.1, y6.2.2.2.2.1, y6.2.2.2.2.2.1, y6.2.2.2.2.2.2) with
  | none => none
  | some y9 => (if (y9.2.1 7) = 0 then sp_H_module_49   2601 y3.1 0 ((upd y9.2.1 8 y9.1), y9.2.2.1, y9.2.2.2.1, y9.2.2.2.2.1, y9.2.2.2.2.2.1, y9.2.2.2.2.2.2) else none)) else none))) else none))) else none))
theorem c_sp_H_module   {σ : ck_S} {r : Int32 × ck_S} (hp : sp_H_module   σ = some r) : ck_Has l F (d + 163) m_H_module h_K a A [.ref a] σ (fun w σ' => w = some (.int r.1) ∧ σ' = r.2) := by
  refine ck_meth (k := 2) (L := [some (.ref a), none, none]) pn_H rfl (Nat.le_of_ble_eq_true rfl) ?_
  unfold sp_H_module at hp
  refine ck_p (L' := [some (.ref a), none, none]) (st' := [.ref a]) k_H_module rfl rfl ?_
  refine ck_g k_H_module rfl rfl rfl rfl ?_
  cases hb1 : (σ.2.2.1 0) with
  | none =>
    rw [hb1] at hp
    try dsimp only at hp
    cases hp
  | some b1 =>
    rw [hb1] at hp
    try dsimp only at hp
    by_cases g2 : eo σ.2.2.2.1 b1 4 = true
    · rw [if_pos g2] at hp
      cases hy3 : sp_in rd_K b1 (sp_Rd_readText  ) σ with
      | none =>
        rw [hy3] at hp
        cases hp
      | some y3 =>
        rw [hy3] at hp
        try dsimp only at hp
        refine ck_ivO (M' := m_Rd_readText) (As := []) k_H_module rfl rfl rfl rfl rfl g2 rfl rfl (Nat.le_of_ble_eq_true rfl) (c_in (mk := fun x => .int x) hy3 (fun _ _ _ h => c_sp_Rd_readText h)) (fun hby3 => ?_)
        refine ck_p (L' := [some (.ref a), some (.int y3.1), none]) (st' := []) k_H_module rfl rfl ?_
        refine ck_p (L' := [some (.ref a), some (.int y3.1), none]) (st' := [.ref a]) k_H_module rfl rfl ?_
        refine ck_p (L' := [some (.ref a), some (.int y3.1), none]) (st' := [.ref a, .ref a]) k_H_module rfl rfl ?_
        refine ck_g k_H_module rfl rfl rfl rfl ?_
        cases hb4 : (y3.2.2.2.1 0) with
        | none =>
          rw [hb4] at hp
          try dsimp only at hp
          cases hp
        | some b4 =>
          rw [hb4] at hp
          try dsimp only at hp
          by_cases g5 : eo y3.2.2.2.2.1 b4 4 = true
          · rw [if_pos g5] at hp
            cases hy6 : sp_in rd_K b4 (sp_Rd_faultKind  ) y3.2 with
            | none =>
              rw [hy6] at hp
              cases hp
            | some y6 =>
              rw [hy6] at hp
              try dsimp only at hp
              refine ck_ivO (M' := m_Rd_faultKind) (As := []) k_H_module rfl rfl rfl rfl rfl g5 rfl rfl (Nat.le_of_ble_eq_true rfl) (c_in (mk := fun x => .int x) hy6 (fun _ _ _ h => c_sp_Rd_faultKind h)) (fun hby6 => ?_)
              refine ck_pt k_H_module rfl rfl rfl trivial (Nat.le_of_ble_eq_true rfl) rfl ?_
              refine ck_p (L' := [some (.ref a), some (.int y3.1), none]) (st' := [.ref a]) k_H_module rfl rfl ?_
              refine ck_p (L' := [some (.ref a), some (.int y3.1), none]) (st' := [.ref a, .ref a]) k_H_module rfl rfl ?_
              refine ck_g k_H_module rfl rfl rfl rfl ?_
              cases hb7 : (y6.2.2.2.1 0) with
              | none =>
                rw [hb7] at hp
                try dsimp only at hp
                cases hp
              | some b7 =>
                rw [hb7] at hp
                try dsimp only at hp
                by_cases g8 : eo y6.2.2.2.2.1 b7 4 = true
                · rw [if_pos g8] at hp
                  cases hy9 : sp_in rd_K b7 (sp_Rd_faultPlace  ) ((upd y6.2.1 7 y6.1), y6.2.2.1, y6.2.2.2.1, y6.2.2.2.2.1, y6.2.2.2.2.2.1, y6.2.2.2.2.2.2) with
                  | none =>
                    rw [hy9] at hp
                    cases hp
                  | some y9 =>
                    rw [hy9] at hp
                    try dsimp only at hp
                    refine ck_ivO (M' := m_Rd_faultPlace) (As := []) k_H_module rfl rfl rfl rfl rfl g8 rfl rfl (Nat.le_of_ble_eq_true rfl) (c_in (mk := fun x => .int x) hy9 (fun _ _ _ h => c_sp_Rd_faultPlace h)) (fun hby9 => ?_)
                    refine ck_pt k_H_module rfl rfl rfl trivial (Nat.le_of_ble_eq_true rfl) rfl ?_
                    refine ck_p (L' := [some (.ref a), some (.int y3.1), none]) (st' := [.ref a]) k_H_module rfl rfl ?_
                    refine ck_g k_H_module rfl rfl rfl rfl ?_
                    refine ck_if k_H_module rfl rfl rfl (fun h10 => ?_) (fun h10 => ?_)
                    · skip
                      rw [if_pos (show (y9.2.1 7) = 0 from h10)] at hp
                      refine ck_p (L' := [some (.ref a), some (.int y3.1), none]) (st' := [.int 0]) k_H_module rfl rfl ?_
                      refine ck_p (L' := [some (.ref a), some (.int y3.1), some (.int 0)]) (st' := []) k_H_module rfl rfl ?_
                      exact c_sp_H_module_49   _ _ _ _ hp
                    · skip
                      rw [if_neg (show ¬ ((y9.2.1 7) = 0) from h10)] at hp
                      cases hp
                · rw [if_neg g8] at hp
                  cases hp
          · rw [if_neg g5] at hp
            cases hp
    · rw [if_neg g2] at hp
      cases hp
noncomputable def sp_H_thrown (σ : ck_S) : Option (Int32 × ck_S) := (match (σ.2.2.1 0) with
  | none => none
  | some b1 => (if eo σ.2.2.2.1 b1 4 = true then (match sp_in rd_K b1 (sp_Rd_readText  ) σ with
  | none => none
  | some y3 => (match (y3.2.2.2.1 0) with
  | none => none
  | some b4 => (if eo y3.2.2.2.2.1 b4 4 = true then (match sp_in rd_K b4 (sp_Rd_faultKind  ) y3.2 with
  | none => none
  | some y6 => (match (y6.2.2.2.1 0) with
  | none => none
  | some b7 => (if eo y6.2.2.2.2.1 b7 4 = true then (match sp_in rd_K b7 (sp_Rd_faultPlace  ) ((upd y6.2.1 7 y6.1), y6.2.2.1, y6.2.2.2.1, y6.2.2.2.2.1, y6.2.2.2.2.2.1, y6.2.2.2.2.2.2) with
  | none => none
  | some y9 => (if (y9.2.1 7) = 0 then none else some (y3.1, ((upd y9.2.1 8 y9.1), y9.2.2.1, y9.2.2.2.1, y9.2.2.2.2.1, y9.2.2.2.2.2.1, y9.2.2.2.2.2.2)))) else none))) else none))) else none))
/-- a walk to a place -/
def ct_Go (l : Launch) (F : gx_F) (d : Nat) (M : gx_M) (K : ck_K) (a : Nat) (A : Nat → Nat) (k : Nat) (pc : Nat) (L : List (Option Value)) (st : List Value) (σ : ck_S) (P : ck_S → Prop) : Prop :=
  ∀ (σ0 : ck_S) (h0 h : gx_H), ck_At K a A σ h → ck_Fr K a A σ0 h0 σ h → gx_Go l F d M pc L st h (fun r => r.1 = .inr k ∧ ∃ σ', P σ' ∧ ck_At K a A σ' r.2 ∧ ck_Fr K a A σ0 h0 σ' r.2)
section CT
variable {M M' : gx_M} {k pc : Nat} {L : List (Option Value)} {st : List Value} {σ : ck_S} {P : ck_S → Prop}
theorem ct_stop (hp : P σ) : ct_Go l F d M K a A k k L [] σ P := fun _ _ _ h1 h2 => gx_stop ⟨rfl, σ, hp, h1, h2⟩
theorem ct_p {i : gx_I} {L' : List (Option Value)} {st' : List Value} (hM : gx_ok M) (ha : gx_at M.2 pc = some i) (hx : gx_ex M.1.2.2.1 i L st = some (L', st')) (kk : ct_Go l F d M K a A k i.2.2.2.2.1 L' st' σ P) : ct_Go l F d M K a A k pc L st σ P := fun σ0 h0 h h1 h2 => gx_p hM ha hx (kk σ0 h0 h h1 h2)
theorem ct_if {i : gx_I} {c : Jvm.ClassFile.Cond} {off : Int} {x : Int32} {ct cf : Prop} (hM : gx_ok M) (ha : gx_at M.2 pc = some i) (hi : i.1 = .ifCond c off) (hc : gx_cd0 c x = (ct, cf)) (kt : ct → ct_Go l F d M K a A k i.2.2.2.2.2.1 L st σ P) (kf : cf → ct_Go l F d M K a A k i.2.2.2.2.1 L st σ P) : ct_Go l F d M K a A k pc L (.int x :: st) σ P := fun σ0 h0 h h1 h2 => gx_if hM ha hi hc (fun q => kt q σ0 h0 h h1 h2) (fun q => kf q σ0 h0 h h1 h2)
theorem ct_g {i : gx_I} {idx j nest tc : Nat} {v : Value} (hM : gx_ok M) (ha : gx_at M.2 pc = some i) (hi : i.1 = .getfield idx) (hx : i.2.2.2.2.2.2.1 = [K.1, j, nest, tc]) (hv : (K.2.1 A σ.1 σ.2.2.1)[j]? = some v) (kk : ct_Go l F d M K a A k i.2.2.2.2.1 L (v :: st) σ P) : ct_Go l F d M K a A k pc L (.ref a :: st) σ P := fun σ0 h0 h h1 h2 => gx_gf hM ha hi hx h1.2.2.1 hv (kk σ0 h0 h h1 h2)
theorem ct_pt {i : gx_I} {idx j nest tc : Nat} {x : Int32} (hM : gx_ok M) (ha : gx_at M.2 pc = some i) (hi : i.1 = .putfield idx) (hx : i.2.2.2.2.2.2.1 = [K.1, j, nest, tc]) (hf : gx_fit tc (.int x)) (hl : j < (K.2.1 A σ.1 σ.2.2.1).length) (hs : (K.2.1 A σ.1 σ.2.2.1).set j (.int x) = K.2.1 A (upd σ.1 j x) σ.2.2.1) (kk : ct_Go l F d M K a A k i.2.2.2.2.1 L st (upd σ.1 j x, σ.2.1, σ.2.2.1, σ.2.2.2) P) : ct_Go l F d M K a A k pc L (.int x :: .ref a :: st) σ P := by
  intro σ0 h0 h h1 h2
  refine gx_pf hM ha hi hx h1.2.2.1 hl hf ?_
  rw [hs]
  obtain ⟨g1, g2⟩ := ck_wO h1 h2 (ρ := upd σ.1 j x) (κ := σ.2.2.1)
  exact kk σ0 h0 _ g1 g2
theorem ct_ivO {i : gx_I} {idx b ci : Nat} {As rest : List Value} {r : vw_C} {e : Value} {σ1 : ck_S} (hM : gx_ok M) (ha : gx_at M.2 pc = some i) (hi : i.1 = .invokevirtual idx) (hy : i.2.2.2.2.2.2.2 = M'.1) (hn : As.length = M'.1.2.2.2.2) (hs : st = As.reverse ++ .ref b :: rest) (ho : eo σ.2.2.2.1 b ci = true) (hcr : gx_cl[ci]? = some r) (hcn : M'.1.1.cls = r.1) (hw : (rest.map fun v => v.category).sum ≤ 8)
    (hm : ck_Has l F d M' K a A (.ref b :: As) σ (fun v σ' => v = some e ∧ σ' = σ1)) (kk : gx_nar M'.1.2.2.2.1 (some e) → ct_Go l F (d + 1) M K a A k i.2.2.2.2.1 L (e :: rest) σ1 P) : ct_Go l F (d + 1) M K a A k pc L st σ P := by
  obtain ⟨fs, hb⟩ := eo_of ho
  intro σ0 h0 h h1 h2
  refine gx_iv hM ha hi hy hn hs (h1.2.2.2.2.2.1 b _ hb).1 hcr hcn hw (hm h h1) fun v h' hv hp => ?_
  obtain ⟨σ', ⟨rfl, rfl⟩, p2, p3⟩ := hp
  exact kk hv σ0 h0 h' p2 (h2.tr p3)
end CT
theorem w_H_thrown {σ : ck_S} {r : Int32 × ck_S} (hp : sp_H_thrown σ = some r) : ct_Go l F (d + 163) m_H_module h_K a A 37 0 [some (.ref a), none, none] [] σ (fun σ' => σ' = r.2) := by
  unfold sp_H_thrown at hp
  refine ct_p (L' := [some (.ref a), none, none]) (st' := [.ref a]) k_H_module rfl rfl ?_
  refine ct_g k_H_module rfl rfl rfl rfl ?_
  cases hb1 : (σ.2.2.1 0) with
  | none =>
    rw [hb1] at hp
    try dsimp only at hp
    cases hp
  | some b1 =>
    rw [hb1] at hp
    try dsimp only at hp
    by_cases g2 : eo σ.2.2.2.1 b1 4 = true
    · rw [if_pos g2] at hp
      cases hy3 : sp_in rd_K b1 (sp_Rd_readText  ) σ with
      | none =>
        rw [hy3] at hp
        cases hp
      | some y3 =>
        rw [hy3] at hp
        try dsimp only at hp
        refine ct_ivO (M' := m_Rd_readText) (As := []) k_H_module rfl rfl rfl rfl rfl g2 rfl rfl (Nat.le_of_ble_eq_true rfl) (c_in (mk := fun x => .int x) hy3 (fun _ _ _ h => c_sp_Rd_readText h)) (fun hby3 => ?_)
        refine ct_p (L' := [some (.ref a), some (.int y3.1), none]) (st' := []) k_H_module rfl rfl ?_
        refine ct_p (L' := [some (.ref a), some (.int y3.1), none]) (st' := [.ref a]) k_H_module rfl rfl ?_
        refine ct_p (L' := [some (.ref a), some (.int y3.1), none]) (st' := [.ref a, .ref a]) k_H_module rfl rfl ?_
        refine ct_g k_H_module rfl rfl rfl rfl ?_
        cases hb4 : (y3.2.2.2.1 0) with
        | none =>
          rw [hb4] at hp
          try dsimp only at hp
          cases hp
        | some b4 =>
          rw [hb4] at hp
          try dsimp only at hp
          by_cases g5 : eo y3.2.2.2.2.1 b4 4 = true
          · rw [if_pos g5] at hp
            cases hy6 : sp_in rd_K b4 (sp_Rd_faultKind  ) y3.2 with
            | none =>
              rw [hy6] at hp
              cases hp
            | some y6 =>
              rw [hy6] at hp
              try dsimp only at hp
              refine ct_ivO (M' := m_Rd_faultKind) (As := []) k_H_module rfl rfl rfl rfl rfl g5 rfl rfl (Nat.le_of_ble_eq_true rfl) (c_in (mk := fun x => .int x) hy6 (fun _ _ _ h => c_sp_Rd_faultKind h)) (fun hby6 => ?_)
              refine ct_pt k_H_module rfl rfl rfl trivial (Nat.le_of_ble_eq_true rfl) rfl ?_
              refine ct_p (L' := [some (.ref a), some (.int y3.1), none]) (st' := [.ref a]) k_H_module rfl rfl ?_
              refine ct_p (L' := [some (.ref a), some (.int y3.1), none]) (st' := [.ref a, .ref a]) k_H_module rfl rfl ?_
              refine ct_g k_H_module rfl rfl rfl rfl ?_
              cases hb7 : (y6.2.2.2.1 0) with
              | none =>
                rw [hb7] at hp
                try dsimp only at hp
                cases hp
              | some b7 =>
                rw [hb7] at hp
                try dsimp only at hp
                by_cases g8 : eo y6.2.2.2.2.1 b7 4 = true
                · rw [if_pos g8] at hp
                  cases hy9 : sp_in rd_K b7 (sp_Rd_faultPlace  ) ((upd y6.2.1 7 y6.1), y6.2.2.1, y6.2.2.2.1, y6.2.2.2.2.1, y6.2.2.2.2.2.1, y6.2.2.2.2.2.2) with
                  | none =>
                    rw [hy9] at hp
                    cases hp
                  | some y9 =>
                    rw [hy9] at hp
                    try dsimp only at hp
                    refine ct_ivO (M' := m_Rd_faultPlace) (As := []) k_H_module rfl rfl rfl rfl rfl g8 rfl rfl (Nat.le_of_ble_eq_true rfl) (c_in (mk := fun x => .int x) hy9 (fun _ _ _ h => c_sp_Rd_faultPlace h)) (fun hby9 => ?_)
                    refine ct_pt k_H_module rfl rfl rfl trivial (Nat.le_of_ble_eq_true rfl) rfl ?_
                    refine ct_p (L' := [some (.ref a), some (.int y3.1), none]) (st' := [.ref a]) k_H_module rfl rfl ?_
                    refine ct_g k_H_module rfl rfl rfl rfl ?_
                    refine ct_if k_H_module rfl rfl rfl (fun h10 => ?_) (fun h10 => ?_)
                    · skip
                      rw [if_pos (show (y9.2.1 7) = 0 from h10)] at hp
                      cases hp
                    · skip
                      rw [if_neg (show ¬ ((y9.2.1 7) = 0) from h10)] at hp
                      cases hp
                      exact ct_stop rfl
                · rw [if_neg g8] at hp
                  cases hp
          · rw [if_neg g5] at hp
            cases hp
    · rw [if_neg g2] at hp
      cases hp
end HM
