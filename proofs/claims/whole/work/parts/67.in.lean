section IN0
variable {l : Launch} {F : gx_F} {d : Nat} {M : gx_M} {K : ck_K} {a : Nat} {A : Nat → Nat} {σ : ck_S} {pc : Nat} {L : List (Option Value)} {st : List Value} {P : Option Value → ck_S → Prop}
theorem ck_na {i : gx_I} {at_ : ArrayType} {t n : Nat} {x : Int32} (hM : gx_ok M) (ha : gx_at M.2 pc = some i) (hi : i.1 = .newarray at_) (hx : i.2.2.2.2.2.2.1 = [t]) (hz : gx_zb at_ = true) (hx0 : x = nI n) (hn0 : n ≤ 1000000) (kk : ck_Go l F d M K a A i.2.2.2.2.1 L (.ref σ.2.2.2.2.1 :: st) (σ.1, σ.2.1, σ.2.2.1, eset σ.2.2.2.1 σ.2.2.2.2.1 (.inl (t, n, gx_zr at_)), σ.2.2.2.2.1 + 1, σ.2.2.2.2.2 + n) P) : ck_Go l F d M K a A pc L (.int x :: st) σ P := by
  intro σ0 h0 h h1 h2
  refine gx_na hM ha hi hx hz hx0 hn0 ?_
  obtain ⟨w1, w2⟩ := ck_wN h1 h2 (n := n) (c := .inl (t, n, gx_zr at_))
  have h3 := kk σ0 h0 _ w1 w2
  rw [← h1.1] at h3
  exact h3
theorem ck_nq {i : gx_I} {idx t n : Nat} {x : Int32} (hM : gx_ok M) (ha : gx_at M.2 pc = some i) (hi : i.1 = .anewarray idx) (hx : i.2.2.2.2.2.2.1 = [t]) (hx0 : x = nI n) (hn0 : n ≤ 1000000) (kk : ck_Go l F d M K a A i.2.2.2.2.1 L (.ref σ.2.2.2.2.1 :: st) (σ.1, σ.2.1, σ.2.2.1, eset σ.2.2.2.1 σ.2.2.2.2.1 (.inl (t, n, .inr (.inr (.inr (.inr (fun _ => none)))))), σ.2.2.2.2.1 + 1, σ.2.2.2.2.2 + n) P) : ck_Go l F d M K a A pc L (.int x :: st) σ P := by
  intro σ0 h0 h h1 h2
  refine gx_nq hM ha hi hx hx0 hn0 ?_
  obtain ⟨w1, w2⟩ := ck_wN h1 h2 (n := n) (c := .inl (t, n, .inr (.inr (.inr (.inr (fun _ => none))))))
  have h3 := kk σ0 h0 _ w1 w2
  rw [← h1.1] at h3
  exact h3
end IN0
section IN1
variable {l : Launch} {F : gx_F} {d : Nat} {K : ck_K} {a : Nat} {A : Nat → Nat}
set_option maxRecDepth 100000 in
def sp_Tk_init  (v0 : Nat) (σ : ck_S) : Option (ck_S) := (match ep σ.2.2.2.1 v0 6 0 (.int (-2)) with
  | none => none
  | some y1 => (match ep y1 v0 6 1 (.int 0) with
  | none => none
  | some y2 => (match ep y2 v0 6 2 (.int 0) with
  | none => none
  | some y3 => (match ep y3 v0 6 3 (.int 0) with
  | none => none
  | some y4 => (match ep y4 v0 6 4 (.int 0) with
  | none => none
  | some y5 => (match ep y5 v0 6 5 (.int 0) with
  | none => none
  | some y6 => (match ep y6 v0 6 6 (.int 0) with
  | none => none
  | some y7 => (match ep y7 v0 6 7 (.int 0) with
  | none => none
  | some y8 => (match ep y8 v0 6 8 (.int 0) with
  | none => none
  | some y9 => some (σ.1, σ.2.1, σ.2.2.1, y9, σ.2.2.2.2.1, σ.2.2.2.2.2))))))))))
set_option maxRecDepth 100000 in
theorem c_sp_Tk_init  {v0 : Nat} {σ : ck_S} {r : ck_S} (hp : sp_Tk_init  v0 σ = some r) : ck_Has l F (d + 1) m_Tk_init K a A [.ref v0] σ (fun w σ' => w = none ∧ σ' = r) := by
  refine ck_meth (k := 0) (L := [some (.ref v0)]) pn_Tk rfl (Nat.le_of_ble_eq_true rfl) ?_
  unfold sp_Tk_init at hp
  refine ck_p (L' := [some (.ref v0)]) (st' := [.ref v0]) k_Tk_init rfl rfl ?_
  refine ck_oi k_Tk_init rfl rfl rfl (Nat.le_of_ble_eq_true rfl) ?_
  refine ck_p (L' := [some (.ref v0)]) (st' := [.ref v0]) k_Tk_init rfl rfl ?_
  refine ck_p (L' := [some (.ref v0)]) (st' := [.int (-2), .ref v0]) k_Tk_init rfl rfl ?_
  cases hy1 : ep σ.2.2.2.1 v0 6 0 (.int (-2)) with
  | none =>
    rw [hy1] at hp
    cases hp
  | some y1 =>
    rw [hy1] at hp
    try dsimp only at hp
    refine ck_pE k_Tk_init rfl rfl rfl trivial hy1 ?_
    dsimp only
    refine ck_p (L' := [some (.ref v0)]) (st' := [.ref v0]) k_Tk_init rfl rfl ?_
    refine ck_p (L' := [some (.ref v0)]) (st' := [.int 0, .ref v0]) k_Tk_init rfl rfl ?_
    cases hy2 : ep y1 v0 6 1 (.int 0) with
    | none =>
      rw [hy2] at hp
      cases hp
    | some y2 =>
      rw [hy2] at hp
      try dsimp only at hp
      refine ck_pE k_Tk_init rfl rfl rfl trivial hy2 ?_
      dsimp only
      refine ck_p (L' := [some (.ref v0)]) (st' := [.ref v0]) k_Tk_init rfl rfl ?_
      refine ck_p (L' := [some (.ref v0)]) (st' := [.int 0, .ref v0]) k_Tk_init rfl rfl ?_
      cases hy3 : ep y2 v0 6 2 (.int 0) with
      | none =>
        rw [hy3] at hp
        cases hp
      | some y3 =>
        rw [hy3] at hp
        try dsimp only at hp
        refine ck_pE k_Tk_init rfl rfl rfl trivial hy3 ?_
        dsimp only
        refine ck_p (L' := [some (.ref v0)]) (st' := [.ref v0]) k_Tk_init rfl rfl ?_
        refine ck_p (L' := [some (.ref v0)]) (st' := [.int 0, .ref v0]) k_Tk_init rfl rfl ?_
        cases hy4 : ep y3 v0 6 3 (.int 0) with
        | none =>
          rw [hy4] at hp
          cases hp
        | some y4 =>
          rw [hy4] at hp
          try dsimp only at hp
          refine ck_pE k_Tk_init rfl rfl rfl trivial hy4 ?_
          dsimp only
          refine ck_p (L' := [some (.ref v0)]) (st' := [.ref v0]) k_Tk_init rfl rfl ?_
          refine ck_p (L' := [some (.ref v0)]) (st' := [.int 0, .ref v0]) k_Tk_init rfl rfl ?_
          cases hy5 : ep y4 v0 6 4 (.int 0) with
          | none =>
            rw [hy5] at hp
            cases hp
          | some y5 =>
            rw [hy5] at hp
            try dsimp only at hp
            refine ck_pE k_Tk_init rfl rfl rfl trivial hy5 ?_
            dsimp only
            refine ck_p (L' := [some (.ref v0)]) (st' := [.ref v0]) k_Tk_init rfl rfl ?_
            refine ck_p (L' := [some (.ref v0)]) (st' := [.int 0, .ref v0]) k_Tk_init rfl rfl ?_
            cases hy6 : ep y5 v0 6 5 (.int 0) with
            | none =>
              rw [hy6] at hp
              cases hp
            | some y6 =>
              rw [hy6] at hp
              try dsimp only at hp
              refine ck_pE k_Tk_init rfl rfl rfl trivial hy6 ?_
              dsimp only
              refine ck_p (L' := [some (.ref v0)]) (st' := [.ref v0]) k_Tk_init rfl rfl ?_
              refine ck_p (L' := [some (.ref v0)]) (st' := [.int 0, .ref v0]) k_Tk_init rfl rfl ?_
              cases hy7 : ep y6 v0 6 6 (.int 0) with
              | none =>
                rw [hy7] at hp
                cases hp
              | some y7 =>
                rw [hy7] at hp
                try dsimp only at hp
                refine ck_pE k_Tk_init rfl rfl rfl trivial hy7 ?_
                dsimp only
                refine ck_p (L' := [some (.ref v0)]) (st' := [.ref v0]) k_Tk_init rfl rfl ?_
                refine ck_p (L' := [some (.ref v0)]) (st' := [.int 0, .ref v0]) k_Tk_init rfl rfl ?_
                cases hy8 : ep y7 v0 6 7 (.int 0) with
                | none =>
                  rw [hy8] at hp
                  cases hp
                | some y8 =>
                  rw [hy8] at hp
                  try dsimp only at hp
                  refine ck_pE k_Tk_init rfl rfl rfl trivial hy8 ?_
                  dsimp only
                  refine ck_p (L' := [some (.ref v0)]) (st' := [.ref v0]) k_Tk_init rfl rfl ?_
                  refine ck_p (L' := [some (.ref v0)]) (st' := [.int 0, .ref v0]) k_Tk_init rfl rfl ?_
                  cases hy9 : ep y8 v0 6 8 (.int 0) with
                  | none =>
                    rw [hy9] at hp
                    cases hp
                  | some y9 =>
                    rw [hy9] at hp
                    try dsimp only at hp
                    refine ck_pE k_Tk_init rfl rfl rfl (Or.inl rfl) hy9 ?_
                    dsimp only
                    cases hp
                    exact ck_ret (v := none) k_Tk_init rfl rfl trivial rfl ⟨rfl, rfl⟩
set_option maxRecDepth 100000 in
def sp_Rd_init  (v0 : Nat) (σ : ck_S) : Option (ck_S) := (match ep (eset σ.2.2.2.1 σ.2.2.2.2.1 (.inl (4, 6, .inr (.inr (.inr (.inr (fun _ => none))))))) v0 4 0 (.ref σ.2.2.2.2.1) with
  | none => none
  | some y1 => (match ep (eset y1 (σ.2.2.2.2.1 + 1) (.inl (2, 500, gx_zr .char))) v0 4 1 (.ref (σ.2.2.2.2.1 + 1)) with
  | none => none
  | some y2 => (match ep (eset y2 ((σ.2.2.2.2.1 + 1) + 1) (.inl (0, 5, gx_zr .int))) v0 4 2 (.ref ((σ.2.2.2.2.1 + 1) + 1)) with
  | none => none
  | some y3 => (match ep (eset y3 (((σ.2.2.2.2.1 + 1) + 1) + 1) (.inl (0, 26, gx_zr .int))) v0 4 3 (.ref (((σ.2.2.2.2.1 + 1) + 1) + 1)) with
  | none => none
  | some y4 => (match ep (eset y4 ((((σ.2.2.2.2.1 + 1) + 1) + 1) + 1) (.inl (0, 13, gx_zr .int))) v0 4 4 (.ref ((((σ.2.2.2.2.1 + 1) + 1) + 1) + 1)) with
  | none => none
  | some y5 => (match ep (eset y5 (((((σ.2.2.2.2.1 + 1) + 1) + 1) + 1) + 1) (.inl (0, 30, gx_zr .int))) v0 4 5 (.ref (((((σ.2.2.2.2.1 + 1) + 1) + 1) + 1) + 1)) with
  | none => none
  | some y6 => (match ep y6 v0 4 6 (.int 0) with
  | none => none
  | some y7 => (match ep y7 v0 4 7 (.int 0) with
  | none => none
  | some y8 => (match ep y8 v0 4 8 (.int 0) with
  | none => none
  | some y9 => (match ep y9 v0 4 9 (.int 0) with
  | none => none
  | some y10 => (match ep y10 v0 4 10 (.int 0) with
  | none => none
  | some y11 => (match ep y11 v0 4 11 (.int 0) with
  | none => none
  | some y12 => (match ep y12 v0 4 12 (.int 0) with
  | none => none
  | some y13 => (match ep y13 v0 4 13 (.int 0) with
  | none => none
  | some y14 => (match ep y14 v0 4 14 (.int 0) with
  | none => none
  | some y15 => (match ep y15 v0 4 15 (.int 0) with
  | none => none
  | some y16 => (match ep y16 v0 4 16 (.int 0) with
  | none => none
  | some y17 => some (σ.1, σ.2.1, σ.2.2.1, y17, ((((((σ.2.2.2.2.1 + 1) + 1) + 1) + 1) + 1) + 1), ((((((σ.2.2.2.2.2 + 6) + 500) + 5) + 26) + 13) + 30)))))))))))))))))))
set_option maxRecDepth 100000 in
theorem c_sp_Rd_init  {v0 : Nat} {σ : ck_S} {r : ck_S} (hp : sp_Rd_init  v0 σ = some r) : ck_Has l F (d + 1) m_Rd_init K a A [.ref v0] σ (fun w σ' => w = none ∧ σ' = r) := by
  refine ck_meth (k := 0) (L := [some (.ref v0)]) pn_Rd rfl (Nat.le_of_ble_eq_true rfl) ?_
  unfold sp_Rd_init at hp
  refine ck_p (L' := [some (.ref v0)]) (st' := [.ref v0]) k_Rd_init rfl rfl ?_
  refine ck_oi k_Rd_init rfl rfl rfl (Nat.le_of_ble_eq_true rfl) ?_
  refine ck_p (L' := [some (.ref v0)]) (st' := [.ref v0]) k_Rd_init rfl rfl ?_
  refine ck_p (L' := [some (.ref v0)]) (st' := [.int 6, .ref v0]) k_Rd_init rfl rfl ?_
  refine ck_nq (n := 6) k_Rd_init rfl rfl rfl (by decide) (by decide) ?_
  dsimp only
  cases hy1 : ep (eset σ.2.2.2.1 σ.2.2.2.2.1 (.inl (4, 6, .inr (.inr (.inr (.inr (fun _ => none))))))) v0 4 0 (.ref σ.2.2.2.2.1) with
  | none =>
    rw [hy1] at hp
    cases hp
  | some y1 =>
    rw [hy1] at hp
    try dsimp only at hp
    refine ck_pE k_Rd_init rfl rfl rfl trivial hy1 ?_
    dsimp only
    refine ck_p (L' := [some (.ref v0)]) (st' := [.ref v0]) k_Rd_init rfl rfl ?_
    refine ck_p (L' := [some (.ref v0)]) (st' := [.int 500, .ref v0]) k_Rd_init rfl rfl ?_
    refine ck_na (n := 500) k_Rd_init rfl rfl rfl rfl (by decide) (by decide) ?_
    dsimp only
    cases hy2 : ep (eset y1 (σ.2.2.2.2.1 + 1) (.inl (2, 500, gx_zr .char))) v0 4 1 (.ref (σ.2.2.2.2.1 + 1)) with
    | none =>
      rw [hy2] at hp
      cases hp
    | some y2 =>
      rw [hy2] at hp
      try dsimp only at hp
      refine ck_pE k_Rd_init rfl rfl rfl trivial hy2 ?_
      dsimp only
      refine ck_p (L' := [some (.ref v0)]) (st' := [.ref v0]) k_Rd_init rfl rfl ?_
      refine ck_p (L' := [some (.ref v0)]) (st' := [.int 5, .ref v0]) k_Rd_init rfl rfl ?_
      refine ck_na (n := 5) k_Rd_init rfl rfl rfl rfl (by decide) (by decide) ?_
      dsimp only
      cases hy3 : ep (eset y2 ((σ.2.2.2.2.1 + 1) + 1) (.inl (0, 5, gx_zr .int))) v0 4 2 (.ref ((σ.2.2.2.2.1 + 1) + 1)) with
      | none =>
        rw [hy3] at hp
        cases hp
      | some y3 =>
        rw [hy3] at hp
        try dsimp only at hp
        refine ck_pE k_Rd_init rfl rfl rfl trivial hy3 ?_
        dsimp only
        refine ck_p (L' := [some (.ref v0)]) (st' := [.ref v0]) k_Rd_init rfl rfl ?_
        refine ck_p (L' := [some (.ref v0)]) (st' := [.int 26, .ref v0]) k_Rd_init rfl rfl ?_
        refine ck_na (n := 26) k_Rd_init rfl rfl rfl rfl (by decide) (by decide) ?_
        dsimp only
        cases hy4 : ep (eset y3 (((σ.2.2.2.2.1 + 1) + 1) + 1) (.inl (0, 26, gx_zr .int))) v0 4 3 (.ref (((σ.2.2.2.2.1 + 1) + 1) + 1)) with
        | none =>
          rw [hy4] at hp
          cases hp
        | some y4 =>
          rw [hy4] at hp
          try dsimp only at hp
          refine ck_pE k_Rd_init rfl rfl rfl trivial hy4 ?_
          dsimp only
          refine ck_p (L' := [some (.ref v0)]) (st' := [.ref v0]) k_Rd_init rfl rfl ?_
          refine ck_p (L' := [some (.ref v0)]) (st' := [.int 13, .ref v0]) k_Rd_init rfl rfl ?_
          refine ck_na (n := 13) k_Rd_init rfl rfl rfl rfl (by decide) (by decide) ?_
          dsimp only
          cases hy5 : ep (eset y4 ((((σ.2.2.2.2.1 + 1) + 1) + 1) + 1) (.inl (0, 13, gx_zr .int))) v0 4 4 (.ref ((((σ.2.2.2.2.1 + 1) + 1) + 1) + 1)) with
          | none =>
            rw [hy5] at hp
            cases hp
          | some y5 =>
            rw [hy5] at hp
            try dsimp only at hp
            refine ck_pE k_Rd_init rfl rfl rfl trivial hy5 ?_
            dsimp only
            refine ck_p (L' := [some (.ref v0)]) (st' := [.ref v0]) k_Rd_init rfl rfl ?_
            refine ck_p (L' := [some (.ref v0)]) (st' := [.int 30, .ref v0]) k_Rd_init rfl rfl ?_
            refine ck_na (n := 30) k_Rd_init rfl rfl rfl rfl (by decide) (by decide) ?_
            dsimp only
            cases hy6 : ep (eset y5 (((((σ.2.2.2.2.1 + 1) + 1) + 1) + 1) + 1) (.inl (0, 30, gx_zr .int))) v0 4 5 (.ref (((((σ.2.2.2.2.1 + 1) + 1) + 1) + 1) + 1)) with
            | none =>
              rw [hy6] at hp
              cases hp
            | some y6 =>
              rw [hy6] at hp
              try dsimp only at hp
              refine ck_pE k_Rd_init rfl rfl rfl trivial hy6 ?_
              dsimp only
              refine ck_p (L' := [some (.ref v0)]) (st' := [.ref v0]) k_Rd_init rfl rfl ?_
              refine ck_p (L' := [some (.ref v0)]) (st' := [.int 0, .ref v0]) k_Rd_init rfl rfl ?_
              cases hy7 : ep y6 v0 4 6 (.int 0) with
              | none =>
                rw [hy7] at hp
                cases hp
              | some y7 =>
                rw [hy7] at hp
                try dsimp only at hp
                refine ck_pE k_Rd_init rfl rfl rfl trivial hy7 ?_
                dsimp only
                refine ck_p (L' := [some (.ref v0)]) (st' := [.ref v0]) k_Rd_init rfl rfl ?_
                refine ck_p (L' := [some (.ref v0)]) (st' := [.int 0, .ref v0]) k_Rd_init rfl rfl ?_
                cases hy8 : ep y7 v0 4 7 (.int 0) with
                | none =>
                  rw [hy8] at hp
                  cases hp
                | some y8 =>
                  rw [hy8] at hp
                  try dsimp only at hp
                  refine ck_pE k_Rd_init rfl rfl rfl trivial hy8 ?_
                  dsimp only
                  refine ck_p (L' := [some (.ref v0)]) (st' := [.ref v0]) k_Rd_init rfl rfl ?_
                  refine ck_p (L' := [some (.ref v0)]) (st' := [.int 0, .ref v0]) k_Rd_init rfl rfl ?_
                  cases hy9 : ep y8 v0 4 8 (.int 0) with
                  | none =>
                    rw [hy9] at hp
                    cases hp
                  | some y9 =>
                    rw [hy9] at hp
                    try dsimp only at hp
                    refine ck_pE k_Rd_init rfl rfl rfl trivial hy9 ?_
                    dsimp only
                    refine ck_p (L' := [some (.ref v0)]) (st' := [.ref v0]) k_Rd_init rfl rfl ?_
                    refine ck_p (L' := [some (.ref v0)]) (st' := [.int 0, .ref v0]) k_Rd_init rfl rfl ?_
                    cases hy10 : ep y9 v0 4 9 (.int 0) with
                    | none =>
                      rw [hy10] at hp
                      cases hp
                    | some y10 =>
                      rw [hy10] at hp
                      try dsimp only at hp
                      refine ck_pE k_Rd_init rfl rfl rfl trivial hy10 ?_
                      dsimp only
                      refine ck_p (L' := [some (.ref v0)]) (st' := [.ref v0]) k_Rd_init rfl rfl ?_
                      refine ck_p (L' := [some (.ref v0)]) (st' := [.int 0, .ref v0]) k_Rd_init rfl rfl ?_
                      cases hy11 : ep y10 v0 4 10 (.int 0) with
                      | none =>
                        rw [hy11] at hp
                        cases hp
                      | some y11 =>
                        rw [hy11] at hp
                        try dsimp only at hp
                        refine ck_pE k_Rd_init rfl rfl rfl trivial hy11 ?_
                        dsimp only
                        refine ck_p (L' := [some (.ref v0)]) (st' := [.ref v0]) k_Rd_init rfl rfl ?_
                        refine ck_p (L' := [some (.ref v0)]) (st' := [.int 0, .ref v0]) k_Rd_init rfl rfl ?_
                        cases hy12 : ep y11 v0 4 11 (.int 0) with
                        | none =>
                          rw [hy12] at hp
                          cases hp
                        | some y12 =>
                          rw [hy12] at hp
                          try dsimp only at hp
                          refine ck_pE k_Rd_init rfl rfl rfl trivial hy12 ?_
                          dsimp only
                          refine ck_p (L' := [some (.ref v0)]) (st' := [.ref v0]) k_Rd_init rfl rfl ?_
                          refine ck_p (L' := [some (.ref v0)]) (st' := [.int 0, .ref v0]) k_Rd_init rfl rfl ?_
                          cases hy13 : ep y12 v0 4 12 (.int 0) with
                          | none =>
                            rw [hy13] at hp
                            cases hp
                          | some y13 =>
                            rw [hy13] at hp
                            try dsimp only at hp
                            refine ck_pE k_Rd_init rfl rfl rfl trivial hy13 ?_
                            dsimp only
                            refine ck_p (L' := [some (.ref v0)]) (st' := [.ref v0]) k_Rd_init rfl rfl ?_
                            refine ck_p (L' := [some (.ref v0)]) (st' := [.int 0, .ref v0]) k_Rd_init rfl rfl ?_
                            cases hy14 : ep y13 v0 4 13 (.int 0) with
                            | none =>
                              rw [hy14] at hp
                              cases hp
                            | some y14 =>
                              rw [hy14] at hp
                              try dsimp only at hp
                              refine ck_pE k_Rd_init rfl rfl rfl trivial hy14 ?_
                              dsimp only
                              refine ck_p (L' := [some (.ref v0)]) (st' := [.ref v0]) k_Rd_init rfl rfl ?_
                              refine ck_p (L' := [some (.ref v0)]) (st' := [.int 0, .ref v0]) k_Rd_init rfl rfl ?_
                              cases hy15 : ep y14 v0 4 14 (.int 0) with
                              | none =>
                                rw [hy15] at hp
                                cases hp
                              | some y15 =>
                                rw [hy15] at hp
                                try dsimp only at hp
                                refine ck_pE k_Rd_init rfl rfl rfl trivial hy15 ?_
                                dsimp only
                                refine ck_p (L' := [some (.ref v0)]) (st' := [.ref v0]) k_Rd_init rfl rfl ?_
                                refine ck_p (L' := [some (.ref v0)]) (st' := [.int 0, .ref v0]) k_Rd_init rfl rfl ?_
                                cases hy16 : ep y15 v0 4 15 (.int 0) with
                                | none =>
                                  rw [hy16] at hp
                                  cases hp
                                | some y16 =>
                                  rw [hy16] at hp
                                  try dsimp only at hp
                                  refine ck_pE k_Rd_init rfl rfl rfl trivial hy16 ?_
                                  dsimp only
                                  refine ck_p (L' := [some (.ref v0)]) (st' := [.ref v0]) k_Rd_init rfl rfl ?_
                                  refine ck_p (L' := [some (.ref v0)]) (st' := [.int 0, .ref v0]) k_Rd_init rfl rfl ?_
                                  cases hy17 : ep y16 v0 4 16 (.int 0) with
                                  | none =>
                                    rw [hy17] at hp
                                    cases hp
                                  | some y17 =>
                                    rw [hy17] at hp
                                    try dsimp only at hp
                                    refine ck_pE k_Rd_init rfl rfl rfl trivial hy17 ?_
                                    dsimp only
                                    cases hp
                                    exact ck_ret (v := none) k_Rd_init rfl rfl trivial rfl ⟨rfl, rfl⟩
set_option maxRecDepth 100000 in
def sp_Sk_init  (v0 : Nat) (σ : ck_S) : Option (ck_S) := (match sp_Tk_init  σ.2.2.2.2.1 (σ.1, σ.2.1, σ.2.2.1, (eset σ.2.2.2.1 σ.2.2.2.2.1 (.inr (6, gx_def gx_kd6))), (σ.2.2.2.2.1 + 1), (σ.2.2.2.2.2 + 9)) with
  | none => none
  | some y1 => (match ep y1.2.2.2.1 v0 5 0 (.ref σ.2.2.2.2.1) with
  | none => none
  | some y2 => (match ep (eset y2 y1.2.2.2.2.1 (.inl (0, 300, gx_zr .int))) v0 5 1 (.ref y1.2.2.2.2.1) with
  | none => none
  | some y3 => (match ep (eset y3 (y1.2.2.2.2.1 + 1) (.inl (0, 300, gx_zr .int))) v0 5 2 (.ref (y1.2.2.2.2.1 + 1)) with
  | none => none
  | some y4 => (match ep (eset y4 ((y1.2.2.2.2.1 + 1) + 1) (.inl (0, 300, gx_zr .int))) v0 5 3 (.ref ((y1.2.2.2.2.1 + 1) + 1)) with
  | none => none
  | some y5 => (match ep (eset y5 (((y1.2.2.2.2.1 + 1) + 1) + 1) (.inl (0, 300, gx_zr .int))) v0 5 4 (.ref (((y1.2.2.2.2.1 + 1) + 1) + 1)) with
  | none => none
  | some y6 => (match ep (eset y6 ((((y1.2.2.2.2.1 + 1) + 1) + 1) + 1) (.inl (0, 301, gx_zr .int))) v0 5 5 (.ref ((((y1.2.2.2.2.1 + 1) + 1) + 1) + 1)) with
  | none => none
  | some y7 => (match ep y7 v0 5 6 (.int 0) with
  | none => none
  | some y8 => (match ep y8 v0 5 7 (.int 0) with
  | none => none
  | some y9 => (match ep y9 v0 5 8 (.int 0) with
  | none => none
  | some y10 => (match ep y10 v0 5 9 (.null) with
  | none => none
  | some y11 => (match ep y11 v0 5 10 (.null) with
  | none => none
  | some y12 => (match ep y12 v0 5 11 (.int (-1)) with
  | none => none
  | some y13 => (match ep y13 v0 5 12 (.int 0) with
  | none => none
  | some y14 => (match ep y14 v0 5 13 (.int 0) with
  | none => none
  | some y15 => some (y1.1, y1.2.1, y1.2.2.1, y15, (((((y1.2.2.2.2.1 + 1) + 1) + 1) + 1) + 1), (((((y1.2.2.2.2.2 + 300) + 300) + 300) + 300) + 301)))))))))))))))))
set_option maxRecDepth 100000 in
theorem c_sp_Sk_init  {v0 : Nat} {σ : ck_S} {r : ck_S} (hp : sp_Sk_init  v0 σ = some r) : ck_Has l F (d + 2) m_Sk_init K a A [.ref v0] σ (fun w σ' => w = none ∧ σ' = r) := by
  refine ck_meth (k := 0) (L := [some (.ref v0)]) pn_Sk rfl (Nat.le_of_ble_eq_true rfl) ?_
  unfold sp_Sk_init at hp
  refine ck_p (L' := [some (.ref v0)]) (st' := [.ref v0]) k_Sk_init rfl rfl ?_
  refine ck_oi k_Sk_init rfl rfl rfl (Nat.le_of_ble_eq_true rfl) ?_
  refine ck_p (L' := [some (.ref v0)]) (st' := [.ref v0]) k_Sk_init rfl rfl ?_
  refine ck_nw k_Sk_init rfl rfl rfl rfl rfl rfl ?_
  dsimp only
  refine ck_p (L' := [some (.ref v0)]) (st' := [.ref σ.2.2.2.2.1, .ref σ.2.2.2.2.1, .ref v0]) k_Sk_init rfl rfl ?_
  cases hy1 : sp_Tk_init  σ.2.2.2.2.1 (σ.1, σ.2.1, σ.2.2.1, (eset σ.2.2.2.1 σ.2.2.2.2.1 (.inr (6, gx_def gx_kd6))), (σ.2.2.2.2.1 + 1), (σ.2.2.2.2.2 + 9)) with
  | none =>
    rw [hy1] at hp
    cases hp
  | some y1 =>
    rw [hy1] at hp
    try dsimp only at hp
    refine ck_inV (M' := m_Tk_init) (As := []) k_Sk_init rfl rfl rfl rfl rfl rfl (Nat.le_of_ble_eq_true rfl) (c_sp_Tk_init  hy1) ?_
    cases hy2 : ep y1.2.2.2.1 v0 5 0 (.ref σ.2.2.2.2.1) with
    | none =>
      rw [hy2] at hp
      cases hp
    | some y2 =>
      rw [hy2] at hp
      try dsimp only at hp
      refine ck_pE k_Sk_init rfl rfl rfl trivial hy2 ?_
      dsimp only
      refine ck_p (L' := [some (.ref v0)]) (st' := [.ref v0]) k_Sk_init rfl rfl ?_
      refine ck_p (L' := [some (.ref v0)]) (st' := [.int 300, .ref v0]) k_Sk_init rfl rfl ?_
      refine ck_na (n := 300) k_Sk_init rfl rfl rfl rfl (by decide) (by decide) ?_
      dsimp only
      cases hy3 : ep (eset y2 y1.2.2.2.2.1 (.inl (0, 300, gx_zr .int))) v0 5 1 (.ref y1.2.2.2.2.1) with
      | none =>
        rw [hy3] at hp
        cases hp
      | some y3 =>
        rw [hy3] at hp
        try dsimp only at hp
        refine ck_pE k_Sk_init rfl rfl rfl trivial hy3 ?_
        dsimp only
        refine ck_p (L' := [some (.ref v0)]) (st' := [.ref v0]) k_Sk_init rfl rfl ?_
        refine ck_p (L' := [some (.ref v0)]) (st' := [.int 300, .ref v0]) k_Sk_init rfl rfl ?_
        refine ck_na (n := 300) k_Sk_init rfl rfl rfl rfl (by decide) (by decide) ?_
        dsimp only
        cases hy4 : ep (eset y3 (y1.2.2.2.2.1 + 1) (.inl (0, 300, gx_zr .int))) v0 5 2 (.ref (y1.2.2.2.2.1 + 1)) with
        | none =>
          rw [hy4] at hp
          cases hp
        | some y4 =>
          rw [hy4] at hp
          try dsimp only at hp
          refine ck_pE k_Sk_init rfl rfl rfl trivial hy4 ?_
          dsimp only
          refine ck_p (L' := [some (.ref v0)]) (st' := [.ref v0]) k_Sk_init rfl rfl ?_
          refine ck_p (L' := [some (.ref v0)]) (st' := [.int 300, .ref v0]) k_Sk_init rfl rfl ?_
          refine ck_na (n := 300) k_Sk_init rfl rfl rfl rfl (by decide) (by decide) ?_
          dsimp only
          cases hy5 : ep (eset y4 ((y1.2.2.2.2.1 + 1) + 1) (.inl (0, 300, gx_zr .int))) v0 5 3 (.ref ((y1.2.2.2.2.1 + 1) + 1)) with
          | none =>
            rw [hy5] at hp
            cases hp
          | some y5 =>
            rw [hy5] at hp
            try dsimp only at hp
            refine ck_pE k_Sk_init rfl rfl rfl trivial hy5 ?_
            dsimp only
            refine ck_p (L' := [some (.ref v0)]) (st' := [.ref v0]) k_Sk_init rfl rfl ?_
            refine ck_p (L' := [some (.ref v0)]) (st' := [.int 300, .ref v0]) k_Sk_init rfl rfl ?_
            refine ck_na (n := 300) k_Sk_init rfl rfl rfl rfl (by decide) (by decide) ?_
            dsimp only
            cases hy6 : ep (eset y5 (((y1.2.2.2.2.1 + 1) + 1) + 1) (.inl (0, 300, gx_zr .int))) v0 5 4 (.ref (((y1.2.2.2.2.1 + 1) + 1) + 1)) with
            | none =>
              rw [hy6] at hp
              cases hp
            | some y6 =>
              rw [hy6] at hp
              try dsimp only at hp
              refine ck_pE k_Sk_init rfl rfl rfl trivial hy6 ?_
              dsimp only
              refine ck_p (L' := [some (.ref v0)]) (st' := [.ref v0]) k_Sk_init rfl rfl ?_
              refine ck_p (L' := [some (.ref v0)]) (st' := [.int 301, .ref v0]) k_Sk_init rfl rfl ?_
              refine ck_na (n := 301) k_Sk_init rfl rfl rfl rfl (by decide) (by decide) ?_
              dsimp only
              cases hy7 : ep (eset y6 ((((y1.2.2.2.2.1 + 1) + 1) + 1) + 1) (.inl (0, 301, gx_zr .int))) v0 5 5 (.ref ((((y1.2.2.2.2.1 + 1) + 1) + 1) + 1)) with
              | none =>
                rw [hy7] at hp
                cases hp
              | some y7 =>
                rw [hy7] at hp
                try dsimp only at hp
                refine ck_pE k_Sk_init rfl rfl rfl trivial hy7 ?_
                dsimp only
                refine ck_p (L' := [some (.ref v0)]) (st' := [.ref v0]) k_Sk_init rfl rfl ?_
                refine ck_p (L' := [some (.ref v0)]) (st' := [.int 0, .ref v0]) k_Sk_init rfl rfl ?_
                cases hy8 : ep y7 v0 5 6 (.int 0) with
                | none =>
                  rw [hy8] at hp
                  cases hp
                | some y8 =>
                  rw [hy8] at hp
                  try dsimp only at hp
                  refine ck_pE k_Sk_init rfl rfl rfl trivial hy8 ?_
                  dsimp only
                  refine ck_p (L' := [some (.ref v0)]) (st' := [.ref v0]) k_Sk_init rfl rfl ?_
                  refine ck_p (L' := [some (.ref v0)]) (st' := [.int 0, .ref v0]) k_Sk_init rfl rfl ?_
                  cases hy9 : ep y8 v0 5 7 (.int 0) with
                  | none =>
                    rw [hy9] at hp
                    cases hp
                  | some y9 =>
                    rw [hy9] at hp
                    try dsimp only at hp
                    refine ck_pE k_Sk_init rfl rfl rfl trivial hy9 ?_
                    dsimp only
                    refine ck_p (L' := [some (.ref v0)]) (st' := [.ref v0]) k_Sk_init rfl rfl ?_
                    refine ck_p (L' := [some (.ref v0)]) (st' := [.int 0, .ref v0]) k_Sk_init rfl rfl ?_
                    cases hy10 : ep y9 v0 5 8 (.int 0) with
                    | none =>
                      rw [hy10] at hp
                      cases hp
                    | some y10 =>
                      rw [hy10] at hp
                      try dsimp only at hp
                      refine ck_pE k_Sk_init rfl rfl rfl (Or.inl rfl) hy10 ?_
                      dsimp only
                      refine ck_p (L' := [some (.ref v0)]) (st' := [.ref v0]) k_Sk_init rfl rfl ?_
                      refine ck_p (L' := [some (.ref v0)]) (st' := [.null, .ref v0]) k_Sk_init rfl rfl ?_
                      cases hy11 : ep y10 v0 5 9 (.null) with
                      | none =>
                        rw [hy11] at hp
                        cases hp
                      | some y11 =>
                        rw [hy11] at hp
                        try dsimp only at hp
                        refine ck_pE k_Sk_init rfl rfl rfl trivial hy11 ?_
                        dsimp only
                        refine ck_p (L' := [some (.ref v0)]) (st' := [.ref v0]) k_Sk_init rfl rfl ?_
                        refine ck_p (L' := [some (.ref v0)]) (st' := [.null, .ref v0]) k_Sk_init rfl rfl ?_
                        cases hy12 : ep y11 v0 5 10 (.null) with
                        | none =>
                          rw [hy12] at hp
                          cases hp
                        | some y12 =>
                          rw [hy12] at hp
                          try dsimp only at hp
                          refine ck_pE k_Sk_init rfl rfl rfl trivial hy12 ?_
                          dsimp only
                          refine ck_p (L' := [some (.ref v0)]) (st' := [.ref v0]) k_Sk_init rfl rfl ?_
                          refine ck_p (L' := [some (.ref v0)]) (st' := [.int (-1), .ref v0]) k_Sk_init rfl rfl ?_
                          cases hy13 : ep y12 v0 5 11 (.int (-1)) with
                          | none =>
                            rw [hy13] at hp
                            cases hp
                          | some y13 =>
                            rw [hy13] at hp
                            try dsimp only at hp
                            refine ck_pE k_Sk_init rfl rfl rfl trivial hy13 ?_
                            dsimp only
                            refine ck_p (L' := [some (.ref v0)]) (st' := [.ref v0]) k_Sk_init rfl rfl ?_
                            refine ck_p (L' := [some (.ref v0)]) (st' := [.int 0, .ref v0]) k_Sk_init rfl rfl ?_
                            cases hy14 : ep y13 v0 5 12 (.int 0) with
                            | none =>
                              rw [hy14] at hp
                              cases hp
                            | some y14 =>
                              rw [hy14] at hp
                              try dsimp only at hp
                              refine ck_pE k_Sk_init rfl rfl rfl trivial hy14 ?_
                              dsimp only
                              refine ck_p (L' := [some (.ref v0)]) (st' := [.ref v0]) k_Sk_init rfl rfl ?_
                              refine ck_p (L' := [some (.ref v0)]) (st' := [.int 0, .ref v0]) k_Sk_init rfl rfl ?_
                              cases hy15 : ep y14 v0 5 13 (.int 0) with
                              | none =>
                                rw [hy15] at hp
                                cases hp
                              | some y15 =>
                                rw [hy15] at hp
                                try dsimp only at hp
                                refine ck_pE k_Sk_init rfl rfl rfl trivial hy15 ?_
                                dsimp only
                                cases hp
                                exact ck_ret (v := none) k_Sk_init rfl rfl trivial rfl ⟨rfl, rfl⟩
set_option maxRecDepth 100000 in
def sp_H_init   (σ : ck_S) : Option (ck_S) := (match sp_Rd_init  σ.2.2.2.2.1 (σ.1, σ.2.1, σ.2.2.1, (eset σ.2.2.2.1 σ.2.2.2.2.1 (.inr (4, gx_def gx_kd4))), (σ.2.2.2.2.1 + 1), (σ.2.2.2.2.2 + 17)) with
  | none => none
  | some y1 => (match sp_Tk_init  y1.2.2.2.2.1 (y1.1, y1.2.1, (updR y1.2.2.1 0 (some σ.2.2.2.2.1)), (eset y1.2.2.2.1 y1.2.2.2.2.1 (.inr (6, gx_def gx_kd6))), (y1.2.2.2.2.1 + 1), (y1.2.2.2.2.2 + 9)) with
  | none => none
  | some y2 => (match sp_Sk_init  y2.2.2.2.2.1 (y2.1, y2.2.1, (updR y2.2.2.1 1 (some y1.2.2.2.2.1)), (eset y2.2.2.2.1 y2.2.2.2.2.1 (.inr (5, gx_def gx_kd5))), (y2.2.2.2.2.1 + 1), (y2.2.2.2.2.2 + 14)) with
  | none => none
  | some y3 => some ((upd (upd (upd (upd y3.1 5 0) 6 0) 7 0) 8 0), y3.2.1, (updR (updR (updR y3.2.2.1 2 (some y2.2.2.2.2.1)) 3 (some y3.2.2.2.2.1)) 4 (some (y3.2.2.2.2.1 + 1))), (eset (eset y3.2.2.2.1 y3.2.2.2.2.1 (.inl (4, 6, .inr (.inr (.inr (.inr (fun _ => none))))))) (y3.2.2.2.2.1 + 1) (.inl (5, 8, .inr (.inr (.inr (.inr (fun _ => none))))))), ((y3.2.2.2.2.1 + 1) + 1), ((y3.2.2.2.2.2 + 6) + 8)))))
set_option maxRecDepth 100000 in
theorem c_sp_H_init   {σ : ck_S} {r : ck_S} (hp : sp_H_init   σ = some r) : ck_Has l F (d + 3) m_H_init h_K a A [.ref a] σ (fun w σ' => w = none ∧ σ' = r) := by
  refine ck_meth (k := 0) (L := [some (.ref a)]) pn_H rfl (Nat.le_of_ble_eq_true rfl) ?_
  unfold sp_H_init at hp
  refine ck_p (L' := [some (.ref a)]) (st' := [.ref a]) k_H_init rfl rfl ?_
  refine ck_oi k_H_init rfl rfl rfl (Nat.le_of_ble_eq_true rfl) ?_
  refine ck_p (L' := [some (.ref a)]) (st' := [.ref a]) k_H_init rfl rfl ?_
  refine ck_nw k_H_init rfl rfl rfl rfl rfl rfl ?_
  dsimp only
  refine ck_p (L' := [some (.ref a)]) (st' := [.ref σ.2.2.2.2.1, .ref σ.2.2.2.2.1, .ref a]) k_H_init rfl rfl ?_
  cases hy1 : sp_Rd_init  σ.2.2.2.2.1 (σ.1, σ.2.1, σ.2.2.1, (eset σ.2.2.2.1 σ.2.2.2.2.1 (.inr (4, gx_def gx_kd4))), (σ.2.2.2.2.1 + 1), (σ.2.2.2.2.2 + 17)) with
  | none =>
    rw [hy1] at hp
    cases hp
  | some y1 =>
    rw [hy1] at hp
    try dsimp only at hp
    refine ck_inV (M' := m_Rd_init) (As := []) k_H_init rfl rfl rfl rfl rfl rfl (Nat.le_of_ble_eq_true rfl) (c_sp_Rd_init  hy1) ?_
    refine ck_pr (x := (some σ.2.2.2.2.1)) k_H_init rfl rfl rfl (Nat.le_of_ble_eq_true rfl) rfl ?_
    dsimp only
    refine ck_p (L' := [some (.ref a)]) (st' := [.ref a]) k_H_init rfl rfl ?_
    refine ck_nw k_H_init rfl rfl rfl rfl rfl rfl ?_
    dsimp only
    refine ck_p (L' := [some (.ref a)]) (st' := [.ref y1.2.2.2.2.1, .ref y1.2.2.2.2.1, .ref a]) k_H_init rfl rfl ?_
    cases hy2 : sp_Tk_init  y1.2.2.2.2.1 (y1.1, y1.2.1, (updR y1.2.2.1 0 (some σ.2.2.2.2.1)), (eset y1.2.2.2.1 y1.2.2.2.2.1 (.inr (6, gx_def gx_kd6))), (y1.2.2.2.2.1 + 1), (y1.2.2.2.2.2 + 9)) with
    | none =>
      rw [hy2] at hp
      cases hp
    | some y2 =>
      rw [hy2] at hp
      try dsimp only at hp
      refine ck_inV (M' := m_Tk_init) (As := []) k_H_init rfl rfl rfl rfl rfl rfl (Nat.le_of_ble_eq_true rfl) (c_sp_Tk_init  hy2) ?_
      refine ck_pr (x := (some y1.2.2.2.2.1)) k_H_init rfl rfl rfl (Nat.le_of_ble_eq_true rfl) rfl ?_
      dsimp only
      refine ck_p (L' := [some (.ref a)]) (st' := [.ref a]) k_H_init rfl rfl ?_
      refine ck_nw k_H_init rfl rfl rfl rfl rfl rfl ?_
      dsimp only
      refine ck_p (L' := [some (.ref a)]) (st' := [.ref y2.2.2.2.2.1, .ref y2.2.2.2.2.1, .ref a]) k_H_init rfl rfl ?_
      cases hy3 : sp_Sk_init  y2.2.2.2.2.1 (y2.1, y2.2.1, (updR y2.2.2.1 1 (some y1.2.2.2.2.1)), (eset y2.2.2.2.1 y2.2.2.2.2.1 (.inr (5, gx_def gx_kd5))), (y2.2.2.2.2.1 + 1), (y2.2.2.2.2.2 + 14)) with
      | none =>
        rw [hy3] at hp
        cases hp
      | some y3 =>
        rw [hy3] at hp
        try dsimp only at hp
        refine ck_inV (M' := m_Sk_init) (As := []) k_H_init rfl rfl rfl rfl rfl rfl (Nat.le_of_ble_eq_true rfl) (c_sp_Sk_init  hy3) ?_
        refine ck_pr (x := (some y2.2.2.2.2.1)) k_H_init rfl rfl rfl (Nat.le_of_ble_eq_true rfl) rfl ?_
        dsimp only
        refine ck_p (L' := [some (.ref a)]) (st' := [.ref a]) k_H_init rfl rfl ?_
        refine ck_p (L' := [some (.ref a)]) (st' := [.int 6, .ref a]) k_H_init rfl rfl ?_
        refine ck_nq (n := 6) k_H_init rfl rfl rfl (by decide) (by decide) ?_
        dsimp only
        refine ck_pr (x := (some y3.2.2.2.2.1)) k_H_init rfl rfl rfl (Nat.le_of_ble_eq_true rfl) rfl ?_
        dsimp only
        refine ck_p (L' := [some (.ref a)]) (st' := [.ref a]) k_H_init rfl rfl ?_
        refine ck_p (L' := [some (.ref a)]) (st' := [.int 8, .ref a]) k_H_init rfl rfl ?_
        refine ck_nq (n := 8) k_H_init rfl rfl rfl (by decide) (by decide) ?_
        dsimp only
        refine ck_pr (x := (some (y3.2.2.2.2.1 + 1))) k_H_init rfl rfl rfl (Nat.le_of_ble_eq_true rfl) rfl ?_
        dsimp only
        refine ck_p (L' := [some (.ref a)]) (st' := [.ref a]) k_H_init rfl rfl ?_
        refine ck_p (L' := [some (.ref a)]) (st' := [.int 0, .ref a]) k_H_init rfl rfl ?_
        refine ck_pt k_H_init rfl rfl rfl trivial (Nat.le_of_ble_eq_true rfl) rfl ?_
        dsimp only
        refine ck_p (L' := [some (.ref a)]) (st' := [.ref a]) k_H_init rfl rfl ?_
        refine ck_p (L' := [some (.ref a)]) (st' := [.int 0, .ref a]) k_H_init rfl rfl ?_
        refine ck_pt k_H_init rfl rfl rfl trivial (Nat.le_of_ble_eq_true rfl) rfl ?_
        dsimp only
        refine ck_p (L' := [some (.ref a)]) (st' := [.ref a]) k_H_init rfl rfl ?_
        refine ck_p (L' := [some (.ref a)]) (st' := [.int 0, .ref a]) k_H_init rfl rfl ?_
        refine ck_pt k_H_init rfl rfl rfl trivial (Nat.le_of_ble_eq_true rfl) rfl ?_
        dsimp only
        refine ck_p (L' := [some (.ref a)]) (st' := [.ref a]) k_H_init rfl rfl ?_
        refine ck_p (L' := [some (.ref a)]) (st' := [.int 0, .ref a]) k_H_init rfl rfl ?_
        refine ck_pt k_H_init rfl rfl rfl trivial (Nat.le_of_ble_eq_true rfl) rfl ?_
        dsimp only
        cases hp
        exact ck_ret (v := none) k_H_init rfl rfl trivial rfl ⟨rfl, rfl⟩
end IN1
