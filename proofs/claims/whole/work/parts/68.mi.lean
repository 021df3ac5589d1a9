section MI1
variable {l : Launch} {F : gx_F} {d : Nat} {K : ck_K} {a : Nat} {A : Nat → Nat}
set_option maxRecDepth 100000 in
def sp_Md_init  (v0 : Nat) (σ : ck_S) : Option (ck_S) := (match ep (eset σ.2.2.2.1 σ.2.2.2.2.1 (.inl (0, 500, gx_zr .int))) v0 7 2 (.ref σ.2.2.2.2.1) with
  | none => none
  | some y1 => (match ep (eset y1 (σ.2.2.2.2.1 + 1) (.inl (0, 500, gx_zr .int))) v0 7 4 (.ref (σ.2.2.2.2.1 + 1)) with
  | none => none
  | some y2 => (match ep (eset y2 ((σ.2.2.2.2.1 + 1) + 1) (.inl (0, 500, gx_zr .int))) v0 7 6 (.ref ((σ.2.2.2.2.1 + 1) + 1)) with
  | none => none
  | some y3 => (match ep (eset y3 (((σ.2.2.2.2.1 + 1) + 1) + 1) (.inl (0, 7, gx_zr .int))) v0 7 11 (.ref (((σ.2.2.2.2.1 + 1) + 1) + 1)) with
  | none => none
  | some y4 => (match ep (eset y4 ((((σ.2.2.2.2.1 + 1) + 1) + 1) + 1) (.inl (0, 7, gx_zr .int))) v0 7 12 (.ref ((((σ.2.2.2.2.1 + 1) + 1) + 1) + 1)) with
  | none => none
  | some y5 => (match ep (eset y5 (((((σ.2.2.2.2.1 + 1) + 1) + 1) + 1) + 1) (.inl (0, 182, gx_zr .int))) v0 7 13 (.ref (((((σ.2.2.2.2.1 + 1) + 1) + 1) + 1) + 1)) with
  | none => none
  | some y6 => (match ep (eset y6 ((((((σ.2.2.2.2.1 + 1) + 1) + 1) + 1) + 1) + 1) (.inl (0, 7, gx_zr .int))) v0 7 14 (.ref ((((((σ.2.2.2.2.1 + 1) + 1) + 1) + 1) + 1) + 1)) with
  | none => none
  | some y7 => (match ep (eset y7 (((((((σ.2.2.2.2.1 + 1) + 1) + 1) + 1) + 1) + 1) + 1) (.inl (0, 182, gx_zr .int))) v0 7 15 (.ref (((((((σ.2.2.2.2.1 + 1) + 1) + 1) + 1) + 1) + 1) + 1)) with
  | none => none
  | some y8 => (match ep (eset y8 ((((((((σ.2.2.2.2.1 + 1) + 1) + 1) + 1) + 1) + 1) + 1) + 1) (.inl (0, 7, gx_zr .int))) v0 7 16 (.ref ((((((((σ.2.2.2.2.1 + 1) + 1) + 1) + 1) + 1) + 1) + 1) + 1)) with
  | none => none
  | some y9 => (match ep (eset y9 (((((((((σ.2.2.2.2.1 + 1) + 1) + 1) + 1) + 1) + 1) + 1) + 1) + 1) (.inl (0, 7, gx_zr .int))) v0 7 17 (.ref (((((((((σ.2.2.2.2.1 + 1) + 1) + 1) + 1) + 1) + 1) + 1) + 1) + 1)) with
  | none => none
  | some y10 => (match ep (eset y10 ((((((((((σ.2.2.2.2.1 + 1) + 1) + 1) + 1) + 1) + 1) + 1) + 1) + 1) + 1) (.inl (0, 210, gx_zr .int))) v0 7 18 (.ref ((((((((((σ.2.2.2.2.1 + 1) + 1) + 1) + 1) + 1) + 1) + 1) + 1) + 1) + 1)) with
  | none => none
  | some y11 => (match ep (eset y11 (((((((((((σ.2.2.2.2.1 + 1) + 1) + 1) + 1) + 1) + 1) + 1) + 1) + 1) + 1) + 1) (.inl (0, 2600, gx_zr .int))) v0 7 20 (.ref (((((((((((σ.2.2.2.2.1 + 1) + 1) + 1) + 1) + 1) + 1) + 1) + 1) + 1) + 1) + 1)) with
  | none => none
  | some y12 => (match ep (eset y12 ((((((((((((σ.2.2.2.2.1 + 1) + 1) + 1) + 1) + 1) + 1) + 1) + 1) + 1) + 1) + 1) + 1) (.inl (0, 2600, gx_zr .int))) v0 7 21 (.ref ((((((((((((σ.2.2.2.2.1 + 1) + 1) + 1) + 1) + 1) + 1) + 1) + 1) + 1) + 1) + 1) + 1)) with
  | none => none
  | some y13 => (match ep (eset y13 (((((((((((((σ.2.2.2.2.1 + 1) + 1) + 1) + 1) + 1) + 1) + 1) + 1) + 1) + 1) + 1) + 1) + 1) (.inl (0, 2600, gx_zr .int))) v0 7 22 (.ref (((((((((((((σ.2.2.2.2.1 + 1) + 1) + 1) + 1) + 1) + 1) + 1) + 1) + 1) + 1) + 1) + 1) + 1)) with
  | none => none
  | some y14 => (match ep (eset y14 ((((((((((((((σ.2.2.2.2.1 + 1) + 1) + 1) + 1) + 1) + 1) + 1) + 1) + 1) + 1) + 1) + 1) + 1) + 1) (.inl (0, 2600, gx_zr .int))) v0 7 23 (.ref ((((((((((((((σ.2.2.2.2.1 + 1) + 1) + 1) + 1) + 1) + 1) + 1) + 1) + 1) + 1) + 1) + 1) + 1) + 1)) with
  | none => none
  | some y15 => (match ep (eset y15 (((((((((((((((σ.2.2.2.2.1 + 1) + 1) + 1) + 1) + 1) + 1) + 1) + 1) + 1) + 1) + 1) + 1) + 1) + 1) + 1) (.inl (0, 2600, gx_zr .int))) v0 7 24 (.ref (((((((((((((((σ.2.2.2.2.1 + 1) + 1) + 1) + 1) + 1) + 1) + 1) + 1) + 1) + 1) + 1) + 1) + 1) + 1) + 1)) with
  | none => none
  | some y16 => (match ep (eset y16 ((((((((((((((((σ.2.2.2.2.1 + 1) + 1) + 1) + 1) + 1) + 1) + 1) + 1) + 1) + 1) + 1) + 1) + 1) + 1) + 1) + 1) (.inl (0, 2600, gx_zr .int))) v0 7 25 (.ref ((((((((((((((((σ.2.2.2.2.1 + 1) + 1) + 1) + 1) + 1) + 1) + 1) + 1) + 1) + 1) + 1) + 1) + 1) + 1) + 1) + 1)) with
  | none => none
  | some y17 => (match ep (eset y17 (((((((((((((((((σ.2.2.2.2.1 + 1) + 1) + 1) + 1) + 1) + 1) + 1) + 1) + 1) + 1) + 1) + 1) + 1) + 1) + 1) + 1) + 1) (.inl (0, 2600, gx_zr .int))) v0 7 26 (.ref (((((((((((((((((σ.2.2.2.2.1 + 1) + 1) + 1) + 1) + 1) + 1) + 1) + 1) + 1) + 1) + 1) + 1) + 1) + 1) + 1) + 1) + 1)) with
  | none => none
  | some y18 => (match ep (eset y18 ((((((((((((((((((σ.2.2.2.2.1 + 1) + 1) + 1) + 1) + 1) + 1) + 1) + 1) + 1) + 1) + 1) + 1) + 1) + 1) + 1) + 1) + 1) + 1) (.inl (0, 5, gx_zr .int))) v0 7 30 (.ref ((((((((((((((((((σ.2.2.2.2.1 + 1) + 1) + 1) + 1) + 1) + 1) + 1) + 1) + 1) + 1) + 1) + 1) + 1) + 1) + 1) + 1) + 1) + 1)) with
  | none => none
  | some y19 => (match ep (eset y19 (((((((((((((((((((σ.2.2.2.2.1 + 1) + 1) + 1) + 1) + 1) + 1) + 1) + 1) + 1) + 1) + 1) + 1) + 1) + 1) + 1) + 1) + 1) + 1) + 1) (.inl (0, 26, gx_zr .int))) v0 7 31 (.ref (((((((((((((((((((σ.2.2.2.2.1 + 1) + 1) + 1) + 1) + 1) + 1) + 1) + 1) + 1) + 1) + 1) + 1) + 1) + 1) + 1) + 1) + 1) + 1) + 1)) with
  | none => none
  | some y20 => (match ep (eset y20 ((((((((((((((((((((σ.2.2.2.2.1 + 1) + 1) + 1) + 1) + 1) + 1) + 1) + 1) + 1) + 1) + 1) + 1) + 1) + 1) + 1) + 1) + 1) + 1) + 1) + 1) (.inl (0, 64, gx_zr .int))) v0 7 33 (.ref ((((((((((((((((((((σ.2.2.2.2.1 + 1) + 1) + 1) + 1) + 1) + 1) + 1) + 1) + 1) + 1) + 1) + 1) + 1) + 1) + 1) + 1) + 1) + 1) + 1) + 1)) with
  | none => none
  | some y21 => (match ep (eset y21 (((((((((((((((((((((σ.2.2.2.2.1 + 1) + 1) + 1) + 1) + 1) + 1) + 1) + 1) + 1) + 1) + 1) + 1) + 1) + 1) + 1) + 1) + 1) + 1) + 1) + 1) + 1) (.inl (0, 26, gx_zr .int))) v0 7 38 (.ref (((((((((((((((((((((σ.2.2.2.2.1 + 1) + 1) + 1) + 1) + 1) + 1) + 1) + 1) + 1) + 1) + 1) + 1) + 1) + 1) + 1) + 1) + 1) + 1) + 1) + 1) + 1)) with
  | none => none
  | some y22 => (match ep (eset y22 ((((((((((((((((((((((σ.2.2.2.2.1 + 1) + 1) + 1) + 1) + 1) + 1) + 1) + 1) + 1) + 1) + 1) + 1) + 1) + 1) + 1) + 1) + 1) + 1) + 1) + 1) + 1) + 1) (.inl (0, 8, gx_zr .int))) v0 7 45 (.ref ((((((((((((((((((((((σ.2.2.2.2.1 + 1) + 1) + 1) + 1) + 1) + 1) + 1) + 1) + 1) + 1) + 1) + 1) + 1) + 1) + 1) + 1) + 1) + 1) + 1) + 1) + 1) + 1)) with
  | none => none
  | some y23 => (match ep (eset y23 (((((((((((((((((((((((σ.2.2.2.2.1 + 1) + 1) + 1) + 1) + 1) + 1) + 1) + 1) + 1) + 1) + 1) + 1) + 1) + 1) + 1) + 1) + 1) + 1) + 1) + 1) + 1) + 1) + 1) (.inl (0, 8, gx_zr .int))) v0 7 46 (.ref (((((((((((((((((((((((σ.2.2.2.2.1 + 1) + 1) + 1) + 1) + 1) + 1) + 1) + 1) + 1) + 1) + 1) + 1) + 1) + 1) + 1) + 1) + 1) + 1) + 1) + 1) + 1) + 1) + 1)) with
  | none => none
  | some y24 => (match ep (eset y24 ((((((((((((((((((((((((σ.2.2.2.2.1 + 1) + 1) + 1) + 1) + 1) + 1) + 1) + 1) + 1) + 1) + 1) + 1) + 1) + 1) + 1) + 1) + 1) + 1) + 1) + 1) + 1) + 1) + 1) + 1) (.inl (0, 8, gx_zr .int))) v0 7 47 (.ref ((((((((((((((((((((((((σ.2.2.2.2.1 + 1) + 1) + 1) + 1) + 1) + 1) + 1) + 1) + 1) + 1) + 1) + 1) + 1) + 1) + 1) + 1) + 1) + 1) + 1) + 1) + 1) + 1) + 1) + 1)) with
  | none => none
  | some y25 => (match ep (eset y25 (((((((((((((((((((((((((σ.2.2.2.2.1 + 1) + 1) + 1) + 1) + 1) + 1) + 1) + 1) + 1) + 1) + 1) + 1) + 1) + 1) + 1) + 1) + 1) + 1) + 1) + 1) + 1) + 1) + 1) + 1) + 1) (.inl (0, 8, gx_zr .int))) v0 7 48 (.ref (((((((((((((((((((((((((σ.2.2.2.2.1 + 1) + 1) + 1) + 1) + 1) + 1) + 1) + 1) + 1) + 1) + 1) + 1) + 1) + 1) + 1) + 1) + 1) + 1) + 1) + 1) + 1) + 1) + 1) + 1) + 1)) with
  | none => none
  | some y26 => (match ep (eset y26 ((((((((((((((((((((((((((σ.2.2.2.2.1 + 1) + 1) + 1) + 1) + 1) + 1) + 1) + 1) + 1) + 1) + 1) + 1) + 1) + 1) + 1) + 1) + 1) + 1) + 1) + 1) + 1) + 1) + 1) + 1) + 1) + 1) (.inl (0, 8, gx_zr .int))) v0 7 49 (.ref ((((((((((((((((((((((((((σ.2.2.2.2.1 + 1) + 1) + 1) + 1) + 1) + 1) + 1) + 1) + 1) + 1) + 1) + 1) + 1) + 1) + 1) + 1) + 1) + 1) + 1) + 1) + 1) + 1) + 1) + 1) + 1) + 1)) with
  | none => none
  | some y27 => (match ep (eset y27 (((((((((((((((((((((((((((σ.2.2.2.2.1 + 1) + 1) + 1) + 1) + 1) + 1) + 1) + 1) + 1) + 1) + 1) + 1) + 1) + 1) + 1) + 1) + 1) + 1) + 1) + 1) + 1) + 1) + 1) + 1) + 1) + 1) + 1) (.inl (0, 600, gx_zr .int))) v0 7 52 (.ref (((((((((((((((((((((((((((σ.2.2.2.2.1 + 1) + 1) + 1) + 1) + 1) + 1) + 1) + 1) + 1) + 1) + 1) + 1) + 1) + 1) + 1) + 1) + 1) + 1) + 1) + 1) + 1) + 1) + 1) + 1) + 1) + 1) + 1)) with
  | none => none
  | some y28 => (match ep (eset y28 ((((((((((((((((((((((((((((σ.2.2.2.2.1 + 1) + 1) + 1) + 1) + 1) + 1) + 1) + 1) + 1) + 1) + 1) + 1) + 1) + 1) + 1) + 1) + 1) + 1) + 1) + 1) + 1) + 1) + 1) + 1) + 1) + 1) + 1) + 1) (.inl (0, 300, gx_zr .int))) v0 7 53 (.ref ((((((((((((((((((((((((((((σ.2.2.2.2.1 + 1) + 1) + 1) + 1) + 1) + 1) + 1) + 1) + 1) + 1) + 1) + 1) + 1) + 1) + 1) + 1) + 1) + 1) + 1) + 1) + 1) + 1) + 1) + 1) + 1) + 1) + 1) + 1)) with
  | none => none
  | some y29 => (match ep (eset y29 (((((((((((((((((((((((((((((σ.2.2.2.2.1 + 1) + 1) + 1) + 1) + 1) + 1) + 1) + 1) + 1) + 1) + 1) + 1) + 1) + 1) + 1) + 1) + 1) + 1) + 1) + 1) + 1) + 1) + 1) + 1) + 1) + 1) + 1) + 1) + 1) (.inl (0, 300, gx_zr .int))) v0 7 54 (.ref (((((((((((((((((((((((((((((σ.2.2.2.2.1 + 1) + 1) + 1) + 1) + 1) + 1) + 1) + 1) + 1) + 1) + 1) + 1) + 1) + 1) + 1) + 1) + 1) + 1) + 1) + 1) + 1) + 1) + 1) + 1) + 1) + 1) + 1) + 1) + 1)) with
  | none => none
  | some y30 => (match ep (eset y30 ((((((((((((((((((((((((((((((σ.2.2.2.2.1 + 1) + 1) + 1) + 1) + 1) + 1) + 1) + 1) + 1) + 1) + 1) + 1) + 1) + 1) + 1) + 1) + 1) + 1) + 1) + 1) + 1) + 1) + 1) + 1) + 1) + 1) + 1) + 1) + 1) + 1) (.inl (0, 301, gx_zr .int))) v0 7 56 (.ref ((((((((((((((((((((((((((((((σ.2.2.2.2.1 + 1) + 1) + 1) + 1) + 1) + 1) + 1) + 1) + 1) + 1) + 1) + 1) + 1) + 1) + 1) + 1) + 1) + 1) + 1) + 1) + 1) + 1) + 1) + 1) + 1) + 1) + 1) + 1) + 1) + 1)) with
  | none => none
  | some y31 => some (σ.1, σ.2.1, σ.2.2.1, y31, (((((((((((((((((((((((((((((((σ.2.2.2.2.1 + 1) + 1) + 1) + 1) + 1) + 1) + 1) + 1) + 1) + 1) + 1) + 1) + 1) + 1) + 1) + 1) + 1) + 1) + 1) + 1) + 1) + 1) + 1) + 1) + 1) + 1) + 1) + 1) + 1) + 1) + 1), (((((((((((((((((((((((((((((((σ.2.2.2.2.2 + 500) + 500) + 500) + 7) + 7) + 182) + 7) + 182) + 7) + 7) + 210) + 2600) + 2600) + 2600) + 2600) + 2600) + 2600) + 2600) + 5) + 26) + 64) + 26) + 8) + 8) + 8) + 8) + 8) + 600) + 300) + 300) + 301)))))))))))))))))))))))))))))))))
set_option maxRecDepth 100000 in
set_option maxHeartbeats 4000000 in
theorem c_sp_Md_init  {v0 : Nat} {σ : ck_S} {r : ck_S} (hp : sp_Md_init  v0 σ = some r) : ck_Has l F (d + 1) m_Md_init K a A [.ref v0] σ (fun w σ' => w = none ∧ σ' = r) := by
  refine ck_meth (k := 0) (L := [some (.ref v0)]) pn_Md rfl (Nat.le_of_ble_eq_true rfl) ?_
  unfold sp_Md_init at hp
  refine ck_p (L' := [some (.ref v0)]) (st' := [.ref v0]) k_Md_init rfl rfl ?_
  refine ck_oi k_Md_init rfl rfl rfl (Nat.le_of_ble_eq_true rfl) ?_
  refine ck_p (L' := [some (.ref v0)]) (st' := [.ref v0]) k_Md_init rfl rfl ?_
  refine ck_p (L' := [some (.ref v0)]) (st' := [.int 500, .ref v0]) k_Md_init rfl rfl ?_
  refine ck_na (n := 500) k_Md_init rfl rfl rfl rfl (by decide) (by decide) ?_
  dsimp only
  cases hy1 : ep (eset σ.2.2.2.1 σ.2.2.2.2.1 (.inl (0, 500, gx_zr .int))) v0 7 2 (.ref σ.2.2.2.2.1) with
  | none =>
    rw [hy1] at hp
    cases hp
  | some y1 =>
    rw [hy1] at hp
    try dsimp only at hp
    refine ck_pE k_Md_init rfl rfl rfl trivial hy1 ?_
    dsimp only
    refine ck_p (L' := [some (.ref v0)]) (st' := [.ref v0]) k_Md_init rfl rfl ?_
    refine ck_p (L' := [some (.ref v0)]) (st' := [.int 500, .ref v0]) k_Md_init rfl rfl ?_
    refine ck_na (n := 500) k_Md_init rfl rfl rfl rfl (by decide) (by decide) ?_
    dsimp only
    cases hy2 : ep (eset y1 (σ.2.2.2.2.1 + 1) (.inl (0, 500, gx_zr .int))) v0 7 4 (.ref (σ.2.2.2.2.1 + 1)) with
    | none =>
      rw [hy2] at hp
      cases hp
    | some y2 =>
      rw [hy2] at hp
      try dsimp only at hp
      refine ck_pE k_Md_init rfl rfl rfl trivial hy2 ?_
      dsimp only
      refine ck_p (L' := [some (.ref v0)]) (st' := [.ref v0]) k_Md_init rfl rfl ?_
      refine ck_p (L' := [some (.ref v0)]) (st' := [.int 500, .ref v0]) k_Md_init rfl rfl ?_
      refine ck_na (n := 500) k_Md_init rfl rfl rfl rfl (by decide) (by decide) ?_
      dsimp only
      cases hy3 : ep (eset y2 ((σ.2.2.2.2.1 + 1) + 1) (.inl (0, 500, gx_zr .int))) v0 7 6 (.ref ((σ.2.2.2.2.1 + 1) + 1)) with
      | none =>
        rw [hy3] at hp
        cases hp
      | some y3 =>
        rw [hy3] at hp
        try dsimp only at hp
        refine ck_pE k_Md_init rfl rfl rfl trivial hy3 ?_
        dsimp only
        refine ck_p (L' := [some (.ref v0)]) (st' := [.ref v0]) k_Md_init rfl rfl ?_
        refine ck_p (L' := [some (.ref v0)]) (st' := [.int 7, .ref v0]) k_Md_init rfl rfl ?_
        refine ck_na (n := 7) k_Md_init rfl rfl rfl rfl (by decide) (by decide) ?_
        dsimp only
        cases hy4 : ep (eset y3 (((σ.2.2.2.2.1 + 1) + 1) + 1) (.inl (0, 7, gx_zr .int))) v0 7 11 (.ref (((σ.2.2.2.2.1 + 1) + 1) + 1)) with
        | none =>
          rw [hy4] at hp
          cases hp
        | some y4 =>
          rw [hy4] at hp
          try dsimp only at hp
          refine ck_pE k_Md_init rfl rfl rfl trivial hy4 ?_
          dsimp only
          refine ck_p (L' := [some (.ref v0)]) (st' := [.ref v0]) k_Md_init rfl rfl ?_
          refine ck_p (L' := [some (.ref v0)]) (st' := [.int 7, .ref v0]) k_Md_init rfl rfl ?_
          refine ck_na (n := 7) k_Md_init rfl rfl rfl rfl (by decide) (by decide) ?_
          dsimp only
          cases hy5 : ep (eset y4 ((((σ.2.2.2.2.1 + 1) + 1) + 1) + 1) (.inl (0, 7, gx_zr .int))) v0 7 12 (.ref ((((σ.2.2.2.2.1 + 1) + 1) + 1) + 1)) with
          | none =>
            rw [hy5] at hp
            cases hp
          | some y5 =>
            rw [hy5] at hp
            try dsimp only at hp
            refine ck_pE k_Md_init rfl rfl rfl trivial hy5 ?_
            dsimp only
            refine ck_p (L' := [some (.ref v0)]) (st' := [.ref v0]) k_Md_init rfl rfl ?_
            refine ck_p (L' := [some (.ref v0)]) (st' := [.int 182, .ref v0]) k_Md_init rfl rfl ?_
            refine ck_na (n := 182) k_Md_init rfl rfl rfl rfl (by decide) (by decide) ?_
            dsimp only
            cases hy6 : ep (eset y5 (((((σ.2.2.2.2.1 + 1) + 1) + 1) + 1) + 1) (.inl (0, 182, gx_zr .int))) v0 7 13 (.ref (((((σ.2.2.2.2.1 + 1) + 1) + 1) + 1) + 1)) with
            | none =>
              rw [hy6] at hp
              cases hp
            | some y6 =>
              rw [hy6] at hp
              try dsimp only at hp
              refine ck_pE k_Md_init rfl rfl rfl trivial hy6 ?_
              dsimp only
              refine ck_p (L' := [some (.ref v0)]) (st' := [.ref v0]) k_Md_init rfl rfl ?_
              refine ck_p (L' := [some (.ref v0)]) (st' := [.int 7, .ref v0]) k_Md_init rfl rfl ?_
              refine ck_na (n := 7) k_Md_init rfl rfl rfl rfl (by decide) (by decide) ?_
              dsimp only
              cases hy7 : ep (eset y6 ((((((σ.2.2.2.2.1 + 1) + 1) + 1) + 1) + 1) + 1) (.inl (0, 7, gx_zr .int))) v0 7 14 (.ref ((((((σ.2.2.2.2.1 + 1) + 1) + 1) + 1) + 1) + 1)) with
              | none =>
                rw [hy7] at hp
                cases hp
              | some y7 =>
                rw [hy7] at hp
                try dsimp only at hp
                refine ck_pE k_Md_init rfl rfl rfl trivial hy7 ?_
                dsimp only
                refine ck_p (L' := [some (.ref v0)]) (st' := [.ref v0]) k_Md_init rfl rfl ?_
                refine ck_p (L' := [some (.ref v0)]) (st' := [.int 182, .ref v0]) k_Md_init rfl rfl ?_
                refine ck_na (n := 182) k_Md_init rfl rfl rfl rfl (by decide) (by decide) ?_
                dsimp only
                cases hy8 : ep (eset y7 (((((((σ.2.2.2.2.1 + 1) + 1) + 1) + 1) + 1) + 1) + 1) (.inl (0, 182, gx_zr .int))) v0 7 15 (.ref (((((((σ.2.2.2.2.1 + 1) + 1) + 1) + 1) + 1) + 1) + 1)) with
                | none =>
                  rw [hy8] at hp
                  cases hp
                | some y8 =>
                  rw [hy8] at hp
                  try dsimp only at hp
                  refine ck_pE k_Md_init rfl rfl rfl trivial hy8 ?_
                  dsimp only
                  refine ck_p (L' := [some (.ref v0)]) (st' := [.ref v0]) k_Md_init rfl rfl ?_
                  refine ck_p (L' := [some (.ref v0)]) (st' := [.int 7, .ref v0]) k_Md_init rfl rfl ?_
                  refine ck_na (n := 7) k_Md_init rfl rfl rfl rfl (by decide) (by decide) ?_
                  dsimp only
                  cases hy9 : ep (eset y8 ((((((((σ.2.2.2.2.1 + 1) + 1) + 1) + 1) + 1) + 1) + 1) + 1) (.inl (0, 7, gx_zr .int))) v0 7 16 (.ref ((((((((σ.2.2.2.2.1 + 1) + 1) + 1) + 1) + 1) + 1) + 1) + 1)) with
                  | none =>
                    rw [hy9] at hp
                    cases hp
                  | some y9 =>
                    rw [hy9] at hp
                    try dsimp only at hp
                    refine ck_pE k_Md_init rfl rfl rfl trivial hy9 ?_
                    dsimp only
                    refine ck_p (L' := [some (.ref v0)]) (st' := [.ref v0]) k_Md_init rfl rfl ?_
                    refine ck_p (L' := [some (.ref v0)]) (st' := [.int 7, .ref v0]) k_Md_init rfl rfl ?_
                    refine ck_na (n := 7) k_Md_init rfl rfl rfl rfl (by decide) (by decide) ?_
                    dsimp only
                    cases hy10 : ep (eset y9 (((((((((σ.2.2.2.2.1 + 1) + 1) + 1) + 1) + 1) + 1) + 1) + 1) + 1) (.inl (0, 7, gx_zr .int))) v0 7 17 (.ref (((((((((σ.2.2.2.2.1 + 1) + 1) + 1) + 1) + 1) + 1) + 1) + 1) + 1)) with
                    | none =>
                      rw [hy10] at hp
                      cases hp
                    | some y10 =>
                      rw [hy10] at hp
                      try dsimp only at hp
                      refine ck_pE k_Md_init rfl rfl rfl trivial hy10 ?_
                      dsimp only
                      refine ck_p (L' := [some (.ref v0)]) (st' := [.ref v0]) k_Md_init rfl rfl ?_
                      refine ck_p (L' := [some (.ref v0)]) (st' := [.int 210, .ref v0]) k_Md_init rfl rfl ?_
                      refine ck_na (n := 210) k_Md_init rfl rfl rfl rfl (by decide) (by decide) ?_
                      dsimp only
                      cases hy11 : ep (eset y10 ((((((((((σ.2.2.2.2.1 + 1) + 1) + 1) + 1) + 1) + 1) + 1) + 1) + 1) + 1) (.inl (0, 210, gx_zr .int))) v0 7 18 (.ref ((((((((((σ.2.2.2.2.1 + 1) + 1) + 1) + 1) + 1) + 1) + 1) + 1) + 1) + 1)) with
                      | none =>
                        rw [hy11] at hp
                        cases hp
                      | some y11 =>
                        rw [hy11] at hp
                        try dsimp only at hp
                        refine ck_pE k_Md_init rfl rfl rfl trivial hy11 ?_
                        dsimp only
                        refine ck_p (L' := [some (.ref v0)]) (st' := [.ref v0]) k_Md_init rfl rfl ?_
                        refine ck_p (L' := [some (.ref v0)]) (st' := [.int 2600, .ref v0]) k_Md_init rfl rfl ?_
                        refine ck_na (n := 2600) k_Md_init rfl rfl rfl rfl (by decide) (by decide) ?_
                        dsimp only
                        cases hy12 : ep (eset y11 (((((((((((σ.2.2.2.2.1 + 1) + 1) + 1) + 1) + 1) + 1) + 1) + 1) + 1) + 1) + 1) (.inl (0, 2600, gx_zr .int))) v0 7 20 (.ref (((((((((((σ.2.2.2.2.1 + 1) + 1) + 1) + 1) + 1) + 1) + 1) + 1) + 1) + 1) + 1)) with
                        | none =>
                          rw [hy12] at hp
                          cases hp
                        | some y12 =>
                          rw [hy12] at hp
                          try dsimp only at hp
                          refine ck_pE k_Md_init rfl rfl rfl trivial hy12 ?_
                          dsimp only
                          refine ck_p (L' := [some (.ref v0)]) (st' := [.ref v0]) k_Md_init rfl rfl ?_
                          refine ck_p (L' := [some (.ref v0)]) (st' := [.int 2600, .ref v0]) k_Md_init rfl rfl ?_
                          refine ck_na (n := 2600) k_Md_init rfl rfl rfl rfl (by decide) (by decide) ?_
                          dsimp only
                          cases hy13 : ep (eset y12 ((((((((((((σ.2.2.2.2.1 + 1) + 1) + 1) + 1) + 1) + 1) + 1) + 1) + 1) + 1) + 1) + 1) (.inl (0, 2600, gx_zr .int))) v0 7 21 (.ref ((((((((((((σ.2.2.2.2.1 + 1) + 1) + 1) + 1) + 1) + 1) + 1) + 1) + 1) + 1) + 1) + 1)) with
                          | none =>
                            rw [hy13] at hp
                            cases hp
                          | some y13 =>
                            rw [hy13] at hp
                            try dsimp only at hp
                            refine ck_pE k_Md_init rfl rfl rfl trivial hy13 ?_
                            dsimp only
                            refine ck_p (L' := [some (.ref v0)]) (st' := [.ref v0]) k_Md_init rfl rfl ?_
                            refine ck_p (L' := [some (.ref v0)]) (st' := [.int 2600, .ref v0]) k_Md_init rfl rfl ?_
                            refine ck_na (n := 2600) k_Md_init rfl rfl rfl rfl (by decide) (by decide) ?_
                            dsimp only
                            cases hy14 : ep (eset y13 (((((((((((((σ.2.2.2.2.1 + 1) + 1) + 1) + 1) + 1) + 1) + 1) + 1) + 1) + 1) + 1) + 1) + 1) (.inl (0, 2600, gx_zr .int))) v0 7 22 (.ref (((((((((((((σ.2.2.2.2.1 + 1) + 1) + 1) + 1) + 1) + 1) + 1) + 1) + 1) + 1) + 1) + 1) + 1)) with
                            | none =>
                              rw [hy14] at hp
                              cases hp
                            | some y14 =>
                              rw [hy14] at hp
                              try dsimp only at hp
                              refine ck_pE k_Md_init rfl rfl rfl trivial hy14 ?_
                              dsimp only
                              refine ck_p (L' := [some (.ref v0)]) (st' := [.ref v0]) k_Md_init rfl rfl ?_
                              refine ck_p (L' := [some (.ref v0)]) (st' := [.int 2600, .ref v0]) k_Md_init rfl rfl ?_
                              refine ck_na (n := 2600) k_Md_init rfl rfl rfl rfl (by decide) (by decide) ?_
                              dsimp only
                              cases hy15 : ep (eset y14 ((((((((((((((σ.2.2.2.2.1 + 1) + 1) + 1) + 1) + 1) + 1) + 1) + 1) + 1) + 1) + 1) + 1) + 1) + 1) (.inl (0, 2600, gx_zr .int))) v0 7 23 (.ref ((((((((((((((σ.2.2.2.2.1 + 1) + 1) + 1) + 1) + 1) + 1) + 1) + 1) + 1) + 1) + 1) + 1) + 1) + 1)) with
                              | none =>
                                rw [hy15] at hp
                                cases hp
                              | some y15 =>
                                rw [hy15] at hp
                                try dsimp only at hp
                                refine ck_pE k_Md_init rfl rfl rfl trivial hy15 ?_
                                dsimp only
                                refine ck_p (L' := [some (.ref v0)]) (st' := [.ref v0]) k_Md_init rfl rfl ?_
                                refine ck_p (L' := [some (.ref v0)]) (st' := [.int 2600, .ref v0]) k_Md_init rfl rfl ?_
                                refine ck_na (n := 2600) k_Md_init rfl rfl rfl rfl (by decide) (by decide) ?_
                                dsimp only
                                cases hy16 : ep (eset y15 (((((((((((((((σ.2.2.2.2.1 + 1) + 1) + 1) + 1) + 1) + 1) + 1) + 1) + 1) + 1) + 1) + 1) + 1) + 1) + 1) (.inl (0, 2600, gx_zr .int))) v0 7 24 (.ref (((((((((((((((σ.2.2.2.2.1 + 1) + 1) + 1) + 1) + 1) + 1) + 1) + 1) + 1) + 1) + 1) + 1) + 1) + 1) + 1)) with
                                | none =>
                                  rw [hy16] at hp
                                  cases hp
                                | some y16 =>
                                  rw [hy16] at hp
                                  try dsimp only at hp
                                  refine ck_pE k_Md_init rfl rfl rfl trivial hy16 ?_
                                  dsimp only
                                  refine ck_p (L' := [some (.ref v0)]) (st' := [.ref v0]) k_Md_init rfl rfl ?_
                                  refine ck_p (L' := [some (.ref v0)]) (st' := [.int 2600, .ref v0]) k_Md_init rfl rfl ?_
                                  refine ck_na (n := 2600) k_Md_init rfl rfl rfl rfl (by decide) (by decide) ?_
                                  dsimp only
                                  cases hy17 : ep (eset y16 ((((((((((((((((σ.2.2.2.2.1 + 1) + 1) + 1) + 1) + 1) + 1) + 1) + 1) + 1) + 1) + 1) + 1) + 1) + 1) + 1) + 1) (.inl (0, 2600, gx_zr .int))) v0 7 25 (.ref ((((((((((((((((σ.2.2.2.2.1 + 1) + 1) + 1) + 1) + 1) + 1) + 1) + 1) + 1) + 1) + 1) + 1) + 1) + 1) + 1) + 1)) with
                                  | none =>
                                    rw [hy17] at hp
                                    cases hp
                                  | some y17 =>
                                    rw [hy17] at hp
                                    try dsimp only at hp
                                    refine ck_pE k_Md_init rfl rfl rfl trivial hy17 ?_
                                    dsimp only
                                    refine ck_p (L' := [some (.ref v0)]) (st' := [.ref v0]) k_Md_init rfl rfl ?_
                                    refine ck_p (L' := [some (.ref v0)]) (st' := [.int 2600, .ref v0]) k_Md_init rfl rfl ?_
                                    refine ck_na (n := 2600) k_Md_init rfl rfl rfl rfl (by decide) (by decide) ?_
                                    dsimp only
                                    cases hy18 : ep (eset y17 (((((((((((((((((σ.2.2.2.2.1 + 1) + 1) + 1) + 1) + 1) + 1) + 1) + 1) + 1) + 1) + 1) + 1) + 1) + 1) + 1) + 1) + 1) (.inl (0, 2600, gx_zr .int))) v0 7 26 (.ref (((((((((((((((((σ.2.2.2.2.1 + 1) + 1) + 1) + 1) + 1) + 1) + 1) + 1) + 1) + 1) + 1) + 1) + 1) + 1) + 1) + 1) + 1)) with
                                    | none =>
                                      rw [hy18] at hp
                                      cases hp
                                    | some y18 =>
                                      rw [hy18] at hp
                                      try dsimp only at hp
                                      refine ck_pE k_Md_init rfl rfl rfl trivial hy18 ?_
                                      dsimp only
                                      refine ck_p (L' := [some (.ref v0)]) (st' := [.ref v0]) k_Md_init rfl rfl ?_
                                      refine ck_p (L' := [some (.ref v0)]) (st' := [.int 5, .ref v0]) k_Md_init rfl rfl ?_
                                      refine ck_na (n := 5) k_Md_init rfl rfl rfl rfl (by decide) (by decide) ?_
                                      dsimp only
                                      cases hy19 : ep (eset y18 ((((((((((((((((((σ.2.2.2.2.1 + 1) + 1) + 1) + 1) + 1) + 1) + 1) + 1) + 1) + 1) + 1) + 1) + 1) + 1) + 1) + 1) + 1) + 1) (.inl (0, 5, gx_zr .int))) v0 7 30 (.ref ((((((((((((((((((σ.2.2.2.2.1 + 1) + 1) + 1) + 1) + 1) + 1) + 1) + 1) + 1) + 1) + 1) + 1) + 1) + 1) + 1) + 1) + 1) + 1)) with
                                      | none =>
                                        rw [hy19] at hp
                                        cases hp
                                      | some y19 =>
                                        rw [hy19] at hp
                                        try dsimp only at hp
                                        refine ck_pE k_Md_init rfl rfl rfl trivial hy19 ?_
                                        dsimp only
                                        refine ck_p (L' := [some (.ref v0)]) (st' := [.ref v0]) k_Md_init rfl rfl ?_
                                        refine ck_p (L' := [some (.ref v0)]) (st' := [.int 26, .ref v0]) k_Md_init rfl rfl ?_
                                        refine ck_na (n := 26) k_Md_init rfl rfl rfl rfl (by decide) (by decide) ?_
                                        dsimp only
                                        cases hy20 : ep (eset y19 (((((((((((((((((((σ.2.2.2.2.1 + 1) + 1) + 1) + 1) + 1) + 1) + 1) + 1) + 1) + 1) + 1) + 1) + 1) + 1) + 1) + 1) + 1) + 1) + 1) (.inl (0, 26, gx_zr .int))) v0 7 31 (.ref (((((((((((((((((((σ.2.2.2.2.1 + 1) + 1) + 1) + 1) + 1) + 1) + 1) + 1) + 1) + 1) + 1) + 1) + 1) + 1) + 1) + 1) + 1) + 1) + 1)) with
                                        | none =>
                                          rw [hy20] at hp
                                          cases hp
                                        | some y20 =>
                                          rw [hy20] at hp
                                          try dsimp only at hp
                                          refine ck_pE k_Md_init rfl rfl rfl trivial hy20 ?_
                                          dsimp only
                                          refine ck_p (L' := [some (.ref v0)]) (st' := [.ref v0]) k_Md_init rfl rfl ?_
                                          refine ck_p (L' := [some (.ref v0)]) (st' := [.int 64, .ref v0]) k_Md_init rfl rfl ?_
                                          refine ck_na (n := 64) k_Md_init rfl rfl rfl rfl (by decide) (by decide) ?_
                                          dsimp only
                                          cases hy21 : ep (eset y20 ((((((((((((((((((((σ.2.2.2.2.1 + 1) + 1) + 1) + 1) + 1) + 1) + 1) + 1) + 1) + 1) + 1) + 1) + 1) + 1) + 1) + 1) + 1) + 1) + 1) + 1) (.inl (0, 64, gx_zr .int))) v0 7 33 (.ref ((((((((((((((((((((σ.2.2.2.2.1 + 1) + 1) + 1) + 1) + 1) + 1) + 1) + 1) + 1) + 1) + 1) + 1) + 1) + 1) + 1) + 1) + 1) + 1) + 1) + 1)) with
                                          | none =>
                                            rw [hy21] at hp
                                            cases hp
                                          | some y21 =>
                                            rw [hy21] at hp
                                            try dsimp only at hp
                                            refine ck_pE k_Md_init rfl rfl rfl trivial hy21 ?_
                                            dsimp only
                                            refine ck_p (L' := [some (.ref v0)]) (st' := [.ref v0]) k_Md_init rfl rfl ?_
                                            refine ck_p (L' := [some (.ref v0)]) (st' := [.int 26, .ref v0]) k_Md_init rfl rfl ?_
                                            refine ck_na (n := 26) k_Md_init rfl rfl rfl rfl (by decide) (by decide) ?_
                                            dsimp only
                                            cases hy22 : ep (eset y21 (((((((((((((((((((((σ.2.2.2.2.1 + 1) + 1) + 1) + 1) + 1) + 1) + 1) + 1) + 1) + 1) + 1) + 1) + 1) + 1) + 1) + 1) + 1) + 1) + 1) + 1) + 1) (.inl (0, 26, gx_zr .int))) v0 7 38 (.ref (((((((((((((((((((((σ.2.2.2.2.1 + 1) + 1) + 1) + 1) + 1) + 1) + 1) + 1) + 1) + 1) + 1) + 1) + 1) + 1) + 1) + 1) + 1) + 1) + 1) + 1) + 1)) with
                                            | none =>
                                              rw [hy22] at hp
                                              cases hp
                                            | some y22 =>
                                              rw [hy22] at hp
                                              try dsimp only at hp
                                              refine ck_pE k_Md_init rfl rfl rfl trivial hy22 ?_
                                              dsimp only
                                              refine ck_p (L' := [some (.ref v0)]) (st' := [.ref v0]) k_Md_init rfl rfl ?_
                                              refine ck_p (L' := [some (.ref v0)]) (st' := [.int 8, .ref v0]) k_Md_init rfl rfl ?_
                                              refine ck_na (n := 8) k_Md_init rfl rfl rfl rfl (by decide) (by decide) ?_
                                              dsimp only
                                              cases hy23 : ep (eset y22 ((((((((((((((((((((((σ.2.2.2.2.1 + 1) + 1) + 1) + 1) + 1) + 1) + 1) + 1) + 1) + 1) + 1) + 1) + 1) + 1) + 1) + 1) + 1) + 1) + 1) + 1) + 1) + 1) (.inl (0, 8, gx_zr .int))) v0 7 45 (.ref ((((((((((((((((((((((σ.2.2.2.2.1 + 1) + 1) + 1) + 1) + 1) + 1) + 1) + 1) + 1) + 1) + 1) + 1) + 1) + 1) + 1) + 1) + 1) + 1) + 1) + 1) + 1) + 1)) with
                                              | none =>
                                                rw [hy23] at hp
                                                cases hp
                                              | some y23 =>
                                                rw [hy23] at hp
                                                try dsimp only at hp
                                                refine ck_pE k_Md_init rfl rfl rfl trivial hy23 ?_
                                                dsimp only
                                                refine ck_p (L' := [some (.ref v0)]) (st' := [.ref v0]) k_Md_init rfl rfl ?_
                                                refine ck_p (L' := [some (.ref v0)]) (st' := [.int 8, .ref v0]) k_Md_init rfl rfl ?_
                                                refine ck_na (n := 8) k_Md_init rfl rfl rfl rfl (by decide) (by decide) ?_
                                                dsimp only
                                                cases hy24 : ep (eset y23 (((((((((((((((((((((((σ.2.2.2.2.1 + 1) + 1) + 1) + 1) + 1) + 1) + 1) + 1) + 1) + 1) + 1) + 1) + 1) + 1) + 1) + 1) + 1) + 1) + 1) + 1) + 1) + 1) + 1) (.inl (0, 8, gx_zr .int))) v0 7 46 (.ref (((((((((((((((((((((((σ.2.2.2.2.1 + 1) + 1) + 1) + 1) + 1) + 1) + 1) + 1) + 1) + 1) + 1) + 1) + 1) + 1) + 1) + 1) + 1) + 1) + 1) + 1) + 1) + 1) + 1)) with
                                                | none =>
                                                  rw [hy24] at hp
                                                  cases hp
                                                | some y24 =>
                                                  rw [hy24] at hp
                                                  try dsimp only at hp
                                                  refine ck_pE k_Md_init rfl rfl rfl trivial hy24 ?_
                                                  dsimp only
                                                  refine ck_p (L' := [some (.ref v0)]) (st' := [.ref v0]) k_Md_init rfl rfl ?_
                                                  refine ck_p (L' := [some (.ref v0)]) (st' := [.int 8, .ref v0]) k_Md_init rfl rfl ?_
                                                  refine ck_na (n := 8) k_Md_init rfl rfl rfl rfl (by decide) (by decide) ?_
                                                  dsimp only
                                                  cases hy25 : ep (eset y24 ((((((((((((((((((((((((σ.2.2.2.2.1 + 1) + 1) + 1) + 1) + 1) + 1) + 1) + 1) + 1) + 1) + 1) + 1) + 1) + 1) + 1) + 1) + 1) + 1) + 1) + 1) + 1) + 1) + 1) + 1) (.inl (0, 8, gx_zr .int))) v0 7 47 (.ref ((((((((((((((((((((((((σ.2.2.2.2.1 + 1) + 1) + 1) + 1) + 1) + 1) + 1) + 1) + 1) + 1) + 1) + 1) + 1) + 1) + 1) + 1) + 1) + 1) + 1) + 1) + 1) + 1) + 1) + 1)) with
                                                  | none =>
                                                    rw [hy25] at hp
                                                    cases hp
                                                  | some y25 =>
                                                    rw [hy25] at hp
                                                    try dsimp only at hp
                                                    refine ck_pE k_Md_init rfl rfl rfl trivial hy25 ?_
                                                    dsimp only
                                                    refine ck_p (L' := [some (.ref v0)]) (st' := [.ref v0]) k_Md_init rfl rfl ?_
                                                    refine ck_p (L' := [some (.ref v0)]) (st' := [.int 8, .ref v0]) k_Md_init rfl rfl ?_
                                                    refine ck_na (n := 8) k_Md_init rfl rfl rfl rfl (by decide) (by decide) ?_
                                                    dsimp only
                                                    cases hy26 : ep (eset y25 (((((((((((((((((((((((((σ.2.2.2.2.1 + 1) + 1) + 1) + 1) + 1) + 1) + 1) + 1) + 1) + 1) + 1) + 1) + 1) + 1) + 1) + 1) + 1) + 1) + 1) + 1) + 1) + 1) + 1) + 1) + 1) (.inl (0, 8, gx_zr .int))) v0 7 48 (.ref (((((((((((((((((((((((((σ.2.2.2.2.1 + 1) + 1) + 1) + 1) + 1) + 1) + 1) + 1) + 1) + 1) + 1) + 1) + 1) + 1) + 1) + 1) + 1) + 1) + 1) + 1) + 1) + 1) + 1) + 1) + 1)) with
                                                    | none =>
                                                      rw [hy26] at hp
                                                      cases hp
                                                    | some y26 =>
                                                      rw [hy26] at hp
                                                      try dsimp only at hp
                                                      refine ck_pE k_Md_init rfl rfl rfl trivial hy26 ?_
                                                      dsimp only
                                                      refine ck_p (L' := [some (.ref v0)]) (st' := [.ref v0]) k_Md_init rfl rfl ?_
                                                      refine ck_p (L' := [some (.ref v0)]) (st' := [.int 8, .ref v0]) k_Md_init rfl rfl ?_
                                                      refine ck_na (n := 8) k_Md_init rfl rfl rfl rfl (by decide) (by decide) ?_
                                                      dsimp only
                                                      cases hy27 : ep (eset y26 ((((((((((((((((((((((((((σ.2.2.2.2.1 + 1) + 1) + 1) + 1) + 1) + 1) + 1) + 1) + 1) + 1) + 1) + 1) + 1) + 1) + 1) + 1) + 1) + 1) + 1) + 1) + 1) + 1) + 1) + 1) + 1) + 1) (.inl (0, 8, gx_zr .int))) v0 7 49 (.ref ((((((((((((((((((((((((((σ.2.2.2.2.1 + 1) + 1) + 1) + 1) + 1) + 1) + 1) + 1) + 1) + 1) + 1) + 1) + 1) + 1) + 1) + 1) + 1) + 1) + 1) + 1) + 1) + 1) + 1) + 1) + 1) + 1)) with
                                                      | none =>
                                                        rw [hy27] at hp
                                                        cases hp
                                                      | some y27 =>
                                                        rw [hy27] at hp
                                                        try dsimp only at hp
                                                        refine ck_pE k_Md_init rfl rfl rfl trivial hy27 ?_
                                                        dsimp only
                                                        refine ck_p (L' := [some (.ref v0)]) (st' := [.ref v0]) k_Md_init rfl rfl ?_
                                                        refine ck_p (L' := [some (.ref v0)]) (st' := [.int 600, .ref v0]) k_Md_init rfl rfl ?_
                                                        refine ck_na (n := 600) k_Md_init rfl rfl rfl rfl (by decide) (by decide) ?_
                                                        dsimp only
                                                        cases hy28 : ep (eset y27 (((((((((((((((((((((((((((σ.2.2.2.2.1 + 1) + 1) + 1) + 1) + 1) + 1) + 1) + 1) + 1) + 1) + 1) + 1) + 1) + 1) + 1) + 1) + 1) + 1) + 1) + 1) + 1) + 1) + 1) + 1) + 1) + 1) + 1) (.inl (0, 600, gx_zr .int))) v0 7 52 (.ref (((((((((((((((((((((((((((σ.2.2.2.2.1 + 1) + 1) + 1) + 1) + 1) + 1) + 1) + 1) + 1) + 1) + 1) + 1) + 1) + 1) + 1) + 1) + 1) + 1) + 1) + 1) + 1) + 1) + 1) + 1) + 1) + 1) + 1)) with
                                                        | none =>
                                                          rw [hy28] at hp
                                                          cases hp
                                                        | some y28 =>
                                                          rw [hy28] at hp
                                                          try dsimp only at hp
                                                          refine ck_pE k_Md_init rfl rfl rfl trivial hy28 ?_
                                                          dsimp only
                                                          refine ck_p (L' := [some (.ref v0)]) (st' := [.ref v0]) k_Md_init rfl rfl ?_
                                                          refine ck_p (L' := [some (.ref v0)]) (st' := [.int 300, .ref v0]) k_Md_init rfl rfl ?_
                                                          refine ck_na (n := 300) k_Md_init rfl rfl rfl rfl (by decide) (by decide) ?_
                                                          dsimp only
                                                          cases hy29 : ep (eset y28 ((((((((((((((((((((((((((((σ.2.2.2.2.1 + 1) + 1) + 1) + 1) + 1) + 1) + 1) + 1) + 1) + 1) + 1) + 1) + 1) + 1) + 1) + 1) + 1) + 1) + 1) + 1) + 1) + 1) + 1) + 1) + 1) + 1) + 1) + 1) (.inl (0, 300, gx_zr .int))) v0 7 53 (.ref ((((((((((((((((((((((((((((σ.2.2.2.2.1 + 1) + 1) + 1) + 1) + 1) + 1) + 1) + 1) + 1) + 1) + 1) + 1) + 1) + 1) + 1) + 1) + 1) + 1) + 1) + 1) + 1) + 1) + 1) + 1) + 1) + 1) + 1) + 1)) with
                                                          | none =>
                                                            rw [hy29] at hp
                                                            cases hp
                                                          | some y29 =>
                                                            rw [hy29] at hp
                                                            try dsimp only at hp
                                                            refine ck_pE k_Md_init rfl rfl rfl trivial hy29 ?_
                                                            dsimp only
                                                            refine ck_p (L' := [some (.ref v0)]) (st' := [.ref v0]) k_Md_init rfl rfl ?_
                                                            refine ck_p (L' := [some (.ref v0)]) (st' := [.int 300, .ref v0]) k_Md_init rfl rfl ?_
                                                            refine ck_na (n := 300) k_Md_init rfl rfl rfl rfl (by decide) (by decide) ?_
                                                            dsimp only
                                                            cases hy30 : ep (eset y29 (((((((((((((((((((((((((((((σ.2.2.2.2.1 + 1) + 1) + 1) + 1) + 1) + 1) + 1) + 1) + 1) + 1) + 1) + 1) + 1) + 1) + 1) + 1) + 1) + 1) + 1) + 1) + 1) + 1) + 1) + 1) + 1) + 1) + 1) + 1) + 1) (.inl (0, 300, gx_zr .int))) v0 7 54 (.ref (((((((((((((((((((((((((((((σ.2.2.2.2.1 + 1) + 1) + 1) + 1) + 1) + 1) + 1) + 1) + 1) + 1) + 1) + 1) + 1) + 1) + 1) + 1) + 1) + 1) + 1) + 1) + 1) + 1) + 1) + 1) + 1) + 1) + 1) + 1) + 1)) with
                                                            | none =>
                                                              rw [hy30] at hp
                                                              cases hp
                                                            | some y30 =>
                                                              rw [hy30] at hp
                                                              try dsimp only at hp
                                                              refine ck_pE k_Md_init rfl rfl rfl trivial hy30 ?_
                                                              dsimp only
                                                              refine ck_p (L' := [some (.ref v0)]) (st' := [.ref v0]) k_Md_init rfl rfl ?_
                                                              refine ck_p (L' := [some (.ref v0)]) (st' := [.int 301, .ref v0]) k_Md_init rfl rfl ?_
                                                              refine ck_na (n := 301) k_Md_init rfl rfl rfl rfl (by decide) (by decide) ?_
                                                              dsimp only
                                                              cases hy31 : ep (eset y30 ((((((((((((((((((((((((((((((σ.2.2.2.2.1 + 1) + 1) + 1) + 1) + 1) + 1) + 1) + 1) + 1) + 1) + 1) + 1) + 1) + 1) + 1) + 1) + 1) + 1) + 1) + 1) + 1) + 1) + 1) + 1) + 1) + 1) + 1) + 1) + 1) + 1) (.inl (0, 301, gx_zr .int))) v0 7 56 (.ref ((((((((((((((((((((((((((((((σ.2.2.2.2.1 + 1) + 1) + 1) + 1) + 1) + 1) + 1) + 1) + 1) + 1) + 1) + 1) + 1) + 1) + 1) + 1) + 1) + 1) + 1) + 1) + 1) + 1) + 1) + 1) + 1) + 1) + 1) + 1) + 1) + 1)) with
                                                              | none =>
                                                                rw [hy31] at hp
                                                                cases hp
                                                              | some y31 =>
                                                                rw [hy31] at hp
                                                                try dsimp only at hp
                                                                refine ck_pE k_Md_init rfl rfl rfl trivial hy31 ?_
                                                                dsimp only
                                                                cases hp
                                                                exact ck_ret (v := none) k_Md_init rfl rfl trivial rfl ⟨rfl, rfl⟩
end MI1
