def sp_Md_must (p res : Int32) (σ : gm_S) : Option (Int64 × gm_S) := match mw σ.2 (σ.1 39) 200 false p res 0 (σ.2 38) with
  | none => none
  | some v => some (v, σ)
def sp_Md_can (p res sure : Int32) (σ : gm_S) : Option (Int64 × gm_S) := match mw σ.2 (σ.1 39) 200 true p res sure (σ.2 38) with
  | none => none
  | some v => some (v, σ)
def sp_Md_go (p res : Int32) (σ : gm_S) : Option (Int32 × gm_S) := match gw σ.2 (σ.1 39) 200 p res (σ.2 38) (σ.1 41) (σ.1 40) with
  | none => none
  | some v => some (v.1, gw_st σ v.2.1 v.2.2)
section WD
variable {l : Launch} {F : gx_F} {d : Nat} {a : Nat} {A : Nat → Nat} {σ : gm_S}
theorem c_sp_Md_must {p res : Int32} {r : Int64 × gm_S} (hp : sp_Md_must p res σ = some r) : gm_Has l F (d + 606) m_Md_must a A [.int p, .int res] σ (fun w σ' => w = some (.long r.1) ∧ σ' = r.2) := by
  unfold sp_Md_must at hp
  cases hx : mw σ.2 (σ.1 39) 200 false p res 0 (σ.2 38) with
  | none =>
    rw [hx] at hp
    cases hp
  | some v =>
    rw [hx] at hp
    cases hp
    exact (c_Md_mw 200).1 _ _ _ _ _ (by omega) (fun _ _ _ => rfl) rfl hx
theorem c_sp_Md_can {p res sure : Int32} {r : Int64 × gm_S} (hp : sp_Md_can p res sure σ = some r) : gm_Has l F (d + 606) m_Md_can a A [.int p, .int res, .int sure] σ (fun w σ' => w = some (.long r.1) ∧ σ' = r.2) := by
  unfold sp_Md_can at hp
  cases hx : mw σ.2 (σ.1 39) 200 true p res sure (σ.2 38) with
  | none =>
    rw [hx] at hp
    cases hp
  | some v =>
    rw [hx] at hp
    cases hp
    exact (c_Md_mw 200).2 _ _ _ _ _ _ (by omega) (fun _ _ _ => rfl) rfl hx
theorem c_sp_Md_go {p res : Int32} {r : Int32 × gm_S} (hp : sp_Md_go p res σ = some r) : gm_Has l F (d + 606) m_Md_go a A [.int p, .int res] σ (fun w σ' => w = some (.int r.1) ∧ σ' = r.2) := by
  unfold sp_Md_go at hp
  cases hx : gw σ.2 (σ.1 39) 200 p res (σ.2 38) (σ.1 41) (σ.1 40) with
  | none =>
    rw [hx] at hp
    cases hp
  | some v =>
    rw [hx] at hp
    cases hp
    exact c_Md_gw 200 _ _ _ _ _ (by omega) (fun _ _ _ => rfl) rfl hx
def sp_Md_work_368   : Nat → Int32 → Int32 → Int32 → Int32 → Int32 → Int32 → Int32 → gm_S → Option (Int32 × gm_S)
  | 0, _, _, _, _, _, _, _, _ => none
  | m + 1, v1, v2, v3, v4, v5, v6, v7, σ => (if gi v1 7 = true then (if ((σ.2 14) v1.toNatClampNeg) ≤ v7 then some (0, σ) else (if gi ((26 * v1) + v7) 182 = true then (if gi ((σ.2 15) ((26 * v1) + v7).toNatClampNeg) 26 = true then (if ((σ.2 38) ((σ.2 15) ((26 * v1) + v7).toNatClampNeg).toNatClampNeg) = 1 then sp_Md_work_368   m v1 v2 v3 v4 v5 v6 (v7 + 1) ((upd σ.1 43 ((σ.1 43) ||| (1 <<< (v7 &&& 31)))), σ.2) else sp_Md_work_368   m v1 v2 v3 v4 v5 v6 (v7 + 1) ((upd σ.1 43 ((σ.1 43) ||| 0)), σ.2)) else none) else none)) else none)
theorem c_sp_Md_work_368  {r : Int32 × gm_S} : ∀ (m : Nat) (v1 : Int32) (v2 : Int32) (v3 : Int32) (v4 : Int32) (v5 : Int32) (v6 : Int32) (v7 : Int32) (σ : gm_S), sp_Md_work_368   m v1 v2 v3 v4 v5 v6 v7 σ = some r → ∀ x8 x9 x10 x11 : Option Value, gm_Go l F (d + 607) m_Md_work a A 368 ([some (.ref a), some (.int v1), some (.int v2), some (.int v3), some (.int v4), some (.int v5), some (.int v6), some (.int v7), x8, x9, x10, x11]) [] σ (fun w σ' => w = some (.int r.1) ∧ σ' = r.2) := by
  intro m
  induction m with
  | zero => intro v1 v2 v3 v4 v5 v6 v7 σ hp; cases hp
  | succ m ihm =>
    intro v1 v2 v3 v4 v5 v6 v7 σ hp x8 x9 x10 x11
    unfold sp_Md_work_368 at hp
    refine gm_p k_Md_work rfl rfl ?_
    refine gm_p k_Md_work rfl rfl ?_
    refine gm_g k_Md_work rfl rfl rfl rfl ?_
    refine gm_p k_Md_work rfl rfl ?_
    by_cases g13 : gi v1 7 = true
    · rw [if_pos g13] at hp
      refine gm_ld k_Md_work rfl rfl (gi_in g13) (by decide) ?_
      refine gm_ic k_Md_work rfl rfl rfl (fun h14 => ?_) (fun h14 => ?_)
      · skip
        rw [if_pos (show ((σ.2 14) v1.toNatClampNeg) ≤ v7 from h14)] at hp
        refine gm_p k_Md_work rfl rfl ?_
        cases hp
        exact gm_ret (v := some (.int _)) k_Md_work rfl rfl trivial rfl ⟨rfl, rfl⟩
      · skip
        rw [if_neg (show ¬ (((σ.2 14) v1.toNatClampNeg) ≤ v7) from h14)] at hp
        refine gm_p k_Md_work rfl rfl ?_
        refine gm_p k_Md_work rfl rfl ?_
        refine gm_g k_Md_work rfl rfl rfl rfl ?_
        refine gm_p k_Md_work rfl rfl ?_
        refine gm_g k_Md_work rfl rfl rfl rfl ?_
        refine gm_p k_Md_work rfl rfl ?_
        refine gm_g k_Md_work rfl rfl rfl rfl ?_
        refine gm_p k_Md_work rfl rfl ?_
        refine gm_p k_Md_work rfl rfl ?_
        refine gm_p k_Md_work rfl rfl ?_
        refine gm_p k_Md_work rfl rfl ?_
        refine gm_p k_Md_work rfl rfl ?_
        by_cases g15 : gi ((26 * v1) + v7) 182 = true
        · rw [if_pos g15] at hp
          refine gm_ld k_Md_work rfl rfl (gi_in g15) (by decide) ?_
          by_cases g16 : gi ((σ.2 15) ((26 * v1) + v7).toNatClampNeg) 26 = true
          · rw [if_pos g16] at hp
            refine gm_ld k_Md_work rfl rfl (gi_in g16) (by decide) ?_
            refine gm_p k_Md_work rfl rfl ?_
            refine gm_ic k_Md_work rfl rfl rfl (fun h17 => ?_) (fun h17 => ?_)
            · skip
              rw [if_neg (show ¬ (((σ.2 38) ((σ.2 15) ((26 * v1) + v7).toNatClampNeg).toNatClampNeg) = 1) from h17)] at hp
              refine gm_p k_Md_work rfl rfl ?_
              refine gm_p k_Md_work rfl rfl ?_
              refine gm_pt k_Md_work rfl rfl rfl trivial (by decide) rfl ?_
              refine gm_p (L' := [some (.ref a), some (.int v1), some (.int v2), some (.int v3), some (.int v4), some (.int v5), some (.int v6), some (.int (v7 + 1)), x8, x9, x10, x11]) (st' := []) k_Md_work rfl rfl ?_
              refine gm_j k_Md_work rfl rfl ?_
              exact ihm _ _ _ _ _ _ _ _ hp _ _ _ _
            · skip
              rw [if_pos (show ((σ.2 38) ((σ.2 15) ((26 * v1) + v7).toNatClampNeg).toNatClampNeg) = 1 from h17)] at hp
              refine gm_p k_Md_work rfl rfl ?_
              refine gm_p k_Md_work rfl rfl ?_
              refine gm_p k_Md_work rfl rfl ?_
              refine gm_j k_Md_work rfl rfl ?_
              refine gm_p k_Md_work rfl rfl ?_
              refine gm_pt k_Md_work rfl rfl rfl trivial (by decide) rfl ?_
              refine gm_p (L' := [some (.ref a), some (.int v1), some (.int v2), some (.int v3), some (.int v4), some (.int v5), some (.int v6), some (.int (v7 + 1)), x8, x9, x10, x11]) (st' := []) k_Md_work rfl rfl ?_
              refine gm_j k_Md_work rfl rfl ?_
              exact ihm _ _ _ _ _ _ _ _ hp _ _ _ _
          · rw [if_neg g16] at hp
            cases hp
        · rw [if_neg g15] at hp
          cases hp
    · rw [if_neg g13] at hp
      cases hp
def sp_Md_work_272   : Nat → Int32 → Int32 → Int32 → Int32 → Int32 → Int32 → gm_S → Option (Int32 × gm_S)
  | 0, _, _, _, _, _, _, _ => none
  | m + 1, v1, v2, v3, v4, v5, v6, σ => (if gi v1 7 = true then (if ((σ.2 14) v1.toNatClampNeg) ≤ v6 then (match sp_Md_go ((σ.2 16) v1.toNatClampNeg) v4 ((upd (upd σ.1 40 0) 41 0), σ.2) with
  | none => none
  | some y10 => (if (y10.2.1 40) = 0 then (if y10.1 = 0 then sp_Md_work_368   2601 v1 v2 v3 v4 v5 y10.1 0 ((upd y10.2.1 42 (-3)), y10.2.2) else sp_Md_work_368   2601 v1 v2 v3 v4 v5 y10.1 0 ((upd y10.2.1 42 (y10.2.1 41)), y10.2.2)) else some ((y10.2.1 40), y10.2))) else (if gi ((26 * v1) + v6) 182 = true then (if gi ((σ.2 15) ((26 * v1) + v6).toNatClampNeg) 26 = true then (if ((σ.2 38) ((σ.2 15) ((26 * v1) + v6).toNatClampNeg).toNatClampNeg) = 0 then some (1, σ) else sp_Md_work_272   m v1 v2 v3 v4 v5 (v6 + 1) σ) else none) else none)) else none)
theorem c_sp_Md_work_272  {r : Int32 × gm_S} : ∀ (m : Nat) (v1 : Int32) (v2 : Int32) (v3 : Int32) (v4 : Int32) (v5 : Int32) (v6 : Int32) (σ : gm_S), sp_Md_work_272   m v1 v2 v3 v4 v5 v6 σ = some r → ∀ x7 x8 x9 x10 x11 : Option Value, gm_Go l F (d + 607) m_Md_work a A 272 ([some (.ref a), some (.int v1), some (.int v2), some (.int v3), some (.int v4), some (.int v5), some (.int v6), x7, x8, x9, x10, x11]) [] σ (fun w σ' => w = some (.int r.1) ∧ σ' = r.2) := by
  intro m
  induction m with
  | zero => intro v1 v2 v3 v4 v5 v6 σ hp; cases hp
  | succ m ihm =>
    intro v1 v2 v3 v4 v5 v6 σ hp x7 x8 x9 x10 x11
    unfold sp_Md_work_272 at hp
    refine gm_p k_Md_work rfl rfl ?_
    refine gm_p k_Md_work rfl rfl ?_
    refine gm_g k_Md_work rfl rfl rfl rfl ?_
    refine gm_p k_Md_work rfl rfl ?_
    by_cases g8 : gi v1 7 = true
    · rw [if_pos g8] at hp
      refine gm_ld k_Md_work rfl rfl (gi_in g8) (by decide) ?_
      refine gm_ic k_Md_work rfl rfl rfl (fun h9 => ?_) (fun h9 => ?_)
      · skip
        rw [if_pos (show ((σ.2 14) v1.toNatClampNeg) ≤ v6 from h9)] at hp
        refine gm_p k_Md_work rfl rfl ?_
        refine gm_p k_Md_work rfl rfl ?_
        refine gm_pt k_Md_work rfl rfl rfl trivial (by decide) rfl ?_
        refine gm_p k_Md_work rfl rfl ?_
        refine gm_p k_Md_work rfl rfl ?_
        refine gm_pt k_Md_work rfl rfl rfl trivial (by decide) rfl ?_
        refine gm_p k_Md_work rfl rfl ?_
        refine gm_p k_Md_work rfl rfl ?_
        refine gm_g k_Md_work rfl rfl rfl rfl ?_
        refine gm_p k_Md_work rfl rfl ?_
        refine gm_ld k_Md_work rfl rfl (gi_in g8) (by decide) ?_
        refine gm_p k_Md_work rfl rfl ?_
        cases hy10 : sp_Md_go ((σ.2 16) v1.toNatClampNeg) v4 ((upd (upd σ.1 40 0) 41 0), σ.2) with
        | none =>
          rw [hy10] at hp
          cases hp
        | some y10 =>
          rw [hy10] at hp
          dsimp only at hp
          refine gm_ivB (M' := m_Md_go) (As := [.int ((σ.2 16) v1.toNatClampNeg), .int v4]) k_Md_work rfl rfl rfl rfl rfl rfl (Nat.le_of_ble_eq_true rfl) (c_sp_Md_go hy10) (fun hby10 => ?_)
          refine gm_p (L' := [some (.ref a), some (.int v1), some (.int v2), some (.int v3), some (.int v4), some (.int v5), some (.int y10.1), x7, x8, x9, x10, x11]) (st' := []) k_Md_work rfl rfl ?_
          refine gm_p k_Md_work rfl rfl ?_
          refine gm_g k_Md_work rfl rfl rfl rfl ?_
          refine gm_if k_Md_work rfl rfl rfl (fun h11 => ?_) (fun h11 => ?_)
          · skip
            rw [if_pos (show (y10.2.1 40) = 0 from h11)] at hp
            refine gm_p k_Md_work rfl rfl ?_
            refine gm_p k_Md_work rfl rfl ?_
            refine gm_if k_Md_work rfl rfl rfl (fun h12 => ?_) (fun h12 => ?_)
            · skip
              rw [if_neg (show ¬ (y10.1 = 0) from h12)] at hp
              refine gm_p k_Md_work rfl rfl ?_
              refine gm_g k_Md_work rfl rfl rfl rfl ?_
              refine gm_pt k_Md_work rfl rfl rfl trivial (by decide) rfl ?_
              refine gm_p k_Md_work rfl rfl ?_
              refine gm_p (L' := [some (.ref a), some (.int v1), some (.int v2), some (.int v3), some (.int v4), some (.int v5), some (.int y10.1), some (.int 0), x8, x9, x10, x11]) (st' := []) k_Md_work rfl rfl ?_
              exact c_sp_Md_work_368   _ _ _ _ _ _ _ _ _ hp _ _ _ _
            · skip
              rw [if_pos (show y10.1 = 0 from h12)] at hp
              refine gm_p k_Md_work rfl rfl ?_
              refine gm_j k_Md_work rfl rfl ?_
              refine gm_pt k_Md_work rfl rfl rfl trivial (by decide) rfl ?_
              refine gm_p k_Md_work rfl rfl ?_
              refine gm_p (L' := [some (.ref a), some (.int v1), some (.int v2), some (.int v3), some (.int v4), some (.int v5), some (.int y10.1), some (.int 0), x8, x9, x10, x11]) (st' := []) k_Md_work rfl rfl ?_
              exact c_sp_Md_work_368   _ _ _ _ _ _ _ _ _ hp _ _ _ _
          · skip
            rw [if_neg (show ¬ ((y10.2.1 40) = 0) from h11)] at hp
            refine gm_p k_Md_work rfl rfl ?_
            refine gm_g k_Md_work rfl rfl rfl rfl ?_
            cases hp
            exact gm_ret (v := some (.int _)) k_Md_work rfl rfl trivial rfl ⟨rfl, rfl⟩
      · skip
        rw [if_neg (show ¬ (((σ.2 14) v1.toNatClampNeg) ≤ v6) from h9)] at hp
        refine gm_p k_Md_work rfl rfl ?_
        refine gm_g k_Md_work rfl rfl rfl rfl ?_
        refine gm_p k_Md_work rfl rfl ?_
        refine gm_g k_Md_work rfl rfl rfl rfl ?_
        refine gm_p k_Md_work rfl rfl ?_
        refine gm_p k_Md_work rfl rfl ?_
        refine gm_p k_Md_work rfl rfl ?_
        refine gm_p k_Md_work rfl rfl ?_
        refine gm_p k_Md_work rfl rfl ?_
        by_cases g18 : gi ((26 * v1) + v6) 182 = true
        · rw [if_pos g18] at hp
          refine gm_ld k_Md_work rfl rfl (gi_in g18) (by decide) ?_
          by_cases g19 : gi ((σ.2 15) ((26 * v1) + v6).toNatClampNeg) 26 = true
          · rw [if_pos g19] at hp
            refine gm_ld k_Md_work rfl rfl (gi_in g19) (by decide) ?_
            refine gm_if k_Md_work rfl rfl rfl (fun h20 => ?_) (fun h20 => ?_)
            · skip
              rw [if_neg (show ¬ (((σ.2 38) ((σ.2 15) ((26 * v1) + v6).toNatClampNeg).toNatClampNeg) = 0) from h20)] at hp
              refine gm_p (L' := [some (.ref a), some (.int v1), some (.int v2), some (.int v3), some (.int v4), some (.int v5), some (.int (v6 + 1)), x7, x8, x9, x10, x11]) (st' := []) k_Md_work rfl rfl ?_
              refine gm_j k_Md_work rfl rfl ?_
              exact ihm _ _ _ _ _ _ _ hp _ _ _ _ _
            · skip
              rw [if_pos (show ((σ.2 38) ((σ.2 15) ((26 * v1) + v6).toNatClampNeg).toNatClampNeg) = 0 from h20)] at hp
              refine gm_p k_Md_work rfl rfl ?_
              cases hp
              exact gm_ret (v := some (.int _)) k_Md_work rfl rfl trivial rfl ⟨rfl, rfl⟩
          · rw [if_neg g19] at hp
            cases hp
        · rw [if_neg g18] at hp
          cases hp
    · rw [if_neg g8] at hp
      cases hp
def sp_Md_work_164  (kk124 : Int32 → Int32 → Int32 → Int32 → Int32 → gm_S → Option (Int32 × gm_S)) : Nat → Int32 → Int32 → Int32 → Int32 → Int32 → Int64 → Int64 → Int32 → gm_S → Option (Int32 × gm_S)
  | 0, _, _, _, _, _, _, _, _, _ => none
  | m + 1, v1, v2, v3, v4, v5, v6, v8, v10, σ => (if gi v1 7 = true then (if ((σ.2 14) v1.toNatClampNeg) ≤ v10 then kk124 v1 v2 v3 v4 v5 σ else (if gi ((26 * v1) + v10) 182 = true then (if gi ((σ.2 15) ((26 * v1) + v10).toNatClampNeg) 26 = true then (if ((σ.2 38) ((σ.2 15) ((26 * v1) + v10).toNatClampNeg).toNatClampNeg) = 0 then (if (q_hasS v6 ((σ.2 15) ((26 * v1) + v10).toNatClampNeg)) = 0 then (if (q_hasS v8 ((σ.2 15) ((26 * v1) + v10).toNatClampNeg)) = 0 then (if v5 = 0 then (if ((upd (σ.2 38) ((σ.2 15) ((26 * v1) + v10).toNatClampNeg).toNatClampNeg 2) ((σ.2 15) ((26 * v1) + v10).toNatClampNeg).toNatClampNeg) = 0 then sp_Md_work_164  kk124 m v1 v2 v3 v4 0 v6 v8 (v10 + 1) (σ.1, (gm_up σ.2 38 (upd (σ.2 38) ((σ.2 15) ((26 * v1) + v10).toNatClampNeg).toNatClampNeg 2))) else sp_Md_work_164  kk124 m v1 v2 v3 v4 1 v6 v8 (v10 + 1) (σ.1, (gm_up σ.2 38 (upd (σ.2 38) ((σ.2 15) ((26 * v1) + v10).toNatClampNeg).toNatClampNeg 2)))) else sp_Md_work_164  kk124 m v1 v2 v3 v4 1 v6 v8 (v10 + 1) (σ.1, (gm_up σ.2 38 (upd (σ.2 38) ((σ.2 15) ((26 * v1) + v10).toNatClampNeg).toNatClampNeg 2)))) else (if v5 = 0 then (if ((upd (σ.2 38) ((σ.2 15) ((26 * v1) + v10).toNatClampNeg).toNatClampNeg 0) ((σ.2 15) ((26 * v1) + v10).toNatClampNeg).toNatClampNeg) = 0 then sp_Md_work_164  kk124 m v1 v2 v3 v4 0 v6 v8 (v10 + 1) (σ.1, (gm_up σ.2 38 (upd (σ.2 38) ((σ.2 15) ((26 * v1) + v10).toNatClampNeg).toNatClampNeg 0))) else sp_Md_work_164  kk124 m v1 v2 v3 v4 1 v6 v8 (v10 + 1) (σ.1, (gm_up σ.2 38 (upd (σ.2 38) ((σ.2 15) ((26 * v1) + v10).toNatClampNeg).toNatClampNeg 0)))) else sp_Md_work_164  kk124 m v1 v2 v3 v4 1 v6 v8 (v10 + 1) (σ.1, (gm_up σ.2 38 (upd (σ.2 38) ((σ.2 15) ((26 * v1) + v10).toNatClampNeg).toNatClampNeg 0))))) else (if v5 = 0 then (if ((upd (σ.2 38) ((σ.2 15) ((26 * v1) + v10).toNatClampNeg).toNatClampNeg 1) ((σ.2 15) ((26 * v1) + v10).toNatClampNeg).toNatClampNeg) = 0 then sp_Md_work_164  kk124 m v1 v2 v3 v4 0 v6 v8 (v10 + 1) (σ.1, (gm_up σ.2 38 (upd (σ.2 38) ((σ.2 15) ((26 * v1) + v10).toNatClampNeg).toNatClampNeg 1))) else sp_Md_work_164  kk124 m v1 v2 v3 v4 1 v6 v8 (v10 + 1) (σ.1, (gm_up σ.2 38 (upd (σ.2 38) ((σ.2 15) ((26 * v1) + v10).toNatClampNeg).toNatClampNeg 1)))) else sp_Md_work_164  kk124 m v1 v2 v3 v4 1 v6 v8 (v10 + 1) (σ.1, (gm_up σ.2 38 (upd (σ.2 38) ((σ.2 15) ((26 * v1) + v10).toNatClampNeg).toNatClampNeg 1))))) else sp_Md_work_164  kk124 m v1 v2 v3 v4 v5 v6 v8 (v10 + 1) σ) else none) else none)) else none)
theorem c_sp_Md_work_164  {kk124 : Int32 → Int32 → Int32 → Int32 → Int32 → gm_S → Option (Int32 × gm_S)} {r : Int32 × gm_S} (hkk124 : ∀ (v1 : Int32) (v2 : Int32) (v3 : Int32) (v4 : Int32) (v5 : Int32) (σ : gm_S), kk124 v1 v2 v3 v4 v5 σ = some r → ∀ x6 x7 x8 x9 x10 x11 : Option Value, gm_Go l F (d + 607) m_Md_work a A 124 ([some (.ref a), some (.int v1), some (.int v2), some (.int v3), some (.int v4), some (.int v5), x6, x7, x8, x9, x10, x11]) [] σ (fun w σ' => w = some (.int r.1) ∧ σ' = r.2)) : ∀ (m : Nat) (v1 : Int32) (v2 : Int32) (v3 : Int32) (v4 : Int32) (v5 : Int32) (v6 : Int64) (v8 : Int64) (v10 : Int32) (σ : gm_S), sp_Md_work_164  kk124 m v1 v2 v3 v4 v5 v6 v8 v10 σ = some r → ∀ x11 : Option Value, gm_Go l F (d + 607) m_Md_work a A 164 ([some (.ref a), some (.int v1), some (.int v2), some (.int v3), some (.int v4), some (.int v5), some (.long v6), none, some (.long v8), none, some (.int v10), x11]) [] σ (fun w σ' => w = some (.int r.1) ∧ σ' = r.2) := by
  intro m
  induction m with
  | zero => intro v1 v2 v3 v4 v5 v6 v8 v10 σ hp; cases hp
  | succ m ihm =>
    intro v1 v2 v3 v4 v5 v6 v8 v10 σ hp x11
    unfold sp_Md_work_164 at hp
    refine gm_p k_Md_work rfl rfl ?_
    refine gm_p k_Md_work rfl rfl ?_
    refine gm_g k_Md_work rfl rfl rfl rfl ?_
    refine gm_p k_Md_work rfl rfl ?_
    by_cases g24 : gi v1 7 = true
    · rw [if_pos g24] at hp
      refine gm_ld k_Md_work rfl rfl (gi_in g24) (by decide) ?_
      refine gm_ic k_Md_work rfl rfl rfl (fun h25 => ?_) (fun h25 => ?_)
      · skip
        rw [if_pos (show ((σ.2 14) v1.toNatClampNeg) ≤ v10 from h25)] at hp
        refine gm_j k_Md_work rfl rfl ?_
        exact hkk124 _ _ _ _ _ _ hp _ _ _ _ _ _
      · skip
        rw [if_neg (show ¬ (((σ.2 14) v1.toNatClampNeg) ≤ v10) from h25)] at hp
        refine gm_p k_Md_work rfl rfl ?_
        refine gm_g k_Md_work rfl rfl rfl rfl ?_
        refine gm_p k_Md_work rfl rfl ?_
        refine gm_p k_Md_work rfl rfl ?_
        refine gm_p k_Md_work rfl rfl ?_
        refine gm_p k_Md_work rfl rfl ?_
        refine gm_p k_Md_work rfl rfl ?_
        by_cases g26 : gi ((26 * v1) + v10) 182 = true
        · rw [if_pos g26] at hp
          refine gm_ld k_Md_work rfl rfl (gi_in g26) (by decide) ?_
          refine gm_p (L' := [some (.ref a), some (.int v1), some (.int v2), some (.int v3), some (.int v4), some (.int v5), some (.long v6), none, some (.long v8), none, some (.int v10), some (.int ((σ.2 15) ((26 * v1) + v10).toNatClampNeg))]) (st' := []) k_Md_work rfl rfl ?_
          refine gm_p k_Md_work rfl rfl ?_
          refine gm_g k_Md_work rfl rfl rfl rfl ?_
          refine gm_p k_Md_work rfl rfl ?_
          by_cases g27 : gi ((σ.2 15) ((26 * v1) + v10).toNatClampNeg) 26 = true
          · rw [if_pos g27] at hp
            refine gm_ld k_Md_work rfl rfl (gi_in g27) (by decide) ?_
            refine gm_if k_Md_work rfl rfl rfl (fun h28 => ?_) (fun h28 => ?_)
            · skip
              rw [if_pos (show ((σ.2 38) ((σ.2 15) ((26 * v1) + v10).toNatClampNeg).toNatClampNeg) = 0 from h28)] at hp
              refine gm_p k_Md_work rfl rfl ?_
              refine gm_g k_Md_work rfl rfl rfl rfl ?_
              refine gm_p k_Md_work rfl rfl ?_
              refine gm_p k_Md_work rfl rfl ?_
              refine gm_p k_Md_work rfl rfl ?_
              refine gm_is (M' := m_Md_hasSignal) (As := [.long v6, .int ((σ.2 15) ((26 * v1) + v10).toNatClampNeg)]) k_Md_work rfl rfl rfl rfl rfl rfl (Nat.le_of_ble_eq_true rfl) (fun h => c_Md_hasSignalQ v6 ((σ.2 15) ((26 * v1) + v10).toNatClampNeg) h) ?_
              refine gm_if k_Md_work rfl rfl rfl (fun h29 => ?_) (fun h29 => ?_)
              · skip
                rw [if_pos (show (q_hasS v6 ((σ.2 15) ((26 * v1) + v10).toNatClampNeg)) = 0 from h29)] at hp
                refine gm_p k_Md_work rfl rfl ?_
                refine gm_p k_Md_work rfl rfl ?_
                refine gm_is (M' := m_Md_hasSignal) (As := [.long v8, .int ((σ.2 15) ((26 * v1) + v10).toNatClampNeg)]) k_Md_work rfl rfl rfl rfl rfl rfl (Nat.le_of_ble_eq_true rfl) (fun h => c_Md_hasSignalQ v8 ((σ.2 15) ((26 * v1) + v10).toNatClampNeg) h) ?_
                refine gm_if k_Md_work rfl rfl rfl (fun h30 => ?_) (fun h30 => ?_)
                · skip
                  rw [if_pos (show (q_hasS v8 ((σ.2 15) ((26 * v1) + v10).toNatClampNeg)) = 0 from h30)] at hp
                  refine gm_p k_Md_work rfl rfl ?_
                  refine gm_sto k_Md_work rfl rfl (gi_in g27) (by decide) ?_
                  refine gm_p k_Md_work rfl rfl ?_
                  refine gm_if k_Md_work rfl rfl rfl (fun h31 => ?_) (fun h31 => ?_)
                  · skip
                    rw [if_neg (show ¬ (v5 = 0) from h31)] at hp
                    refine gm_p k_Md_work rfl rfl ?_
                    refine gm_j k_Md_work rfl rfl ?_
                    refine gm_p (L' := [some (.ref a), some (.int v1), some (.int v2), some (.int v3), some (.int v4), some (.int 1), some (.long v6), none, some (.long v8), none, some (.int v10), some (.int ((σ.2 15) ((26 * v1) + v10).toNatClampNeg))]) (st' := []) k_Md_work rfl rfl ?_
                    refine gm_p (L' := [some (.ref a), some (.int v1), some (.int v2), some (.int v3), some (.int v4), some (.int 1), some (.long v6), none, some (.long v8), none, some (.int (v10 + 1)), some (.int ((σ.2 15) ((26 * v1) + v10).toNatClampNeg))]) (st' := []) k_Md_work rfl rfl ?_
                    refine gm_j k_Md_work rfl rfl ?_
                    exact ihm _ _ _ _ _ _ _ _ _ hp _
                  · skip
                    rw [if_pos (show v5 = 0 from h31)] at hp
                    refine gm_p k_Md_work rfl rfl ?_
                    refine gm_g k_Md_work rfl rfl rfl rfl ?_
                    refine gm_p k_Md_work rfl rfl ?_
                    refine gm_ld k_Md_work rfl rfl (gi_in g27) (by decide) ?_
                    refine gm_if k_Md_work rfl rfl rfl (fun h32 => ?_) (fun h32 => ?_)
                    · skip
                      rw [if_pos (show ((upd (σ.2 38) ((σ.2 15) ((26 * v1) + v10).toNatClampNeg).toNatClampNeg 2) ((σ.2 15) ((26 * v1) + v10).toNatClampNeg).toNatClampNeg) = 0 from h32)] at hp
                      refine gm_p k_Md_work rfl rfl ?_
                      refine gm_p (L' := [some (.ref a), some (.int v1), some (.int v2), some (.int v3), some (.int v4), some (.int 0), some (.long v6), none, some (.long v8), none, some (.int v10), some (.int ((σ.2 15) ((26 * v1) + v10).toNatClampNeg))]) (st' := []) k_Md_work rfl rfl ?_
                      refine gm_p (L' := [some (.ref a), some (.int v1), some (.int v2), some (.int v3), some (.int v4), some (.int 0), some (.long v6), none, some (.long v8), none, some (.int (v10 + 1)), some (.int ((σ.2 15) ((26 * v1) + v10).toNatClampNeg))]) (st' := []) k_Md_work rfl rfl ?_
                      refine gm_j k_Md_work rfl rfl ?_
                      exact ihm _ _ _ _ _ _ _ _ _ hp _
                    · skip
                      rw [if_neg (show ¬ (((upd (σ.2 38) ((σ.2 15) ((26 * v1) + v10).toNatClampNeg).toNatClampNeg 2) ((σ.2 15) ((26 * v1) + v10).toNatClampNeg).toNatClampNeg) = 0) from h32)] at hp
                      refine gm_p k_Md_work rfl rfl ?_
                      refine gm_j k_Md_work rfl rfl ?_
                      refine gm_p (L' := [some (.ref a), some (.int v1), some (.int v2), some (.int v3), some (.int v4), some (.int 1), some (.long v6), none, some (.long v8), none, some (.int v10), some (.int ((σ.2 15) ((26 * v1) + v10).toNatClampNeg))]) (st' := []) k_Md_work rfl rfl ?_
                      refine gm_p (L' := [some (.ref a), some (.int v1), some (.int v2), some (.int v3), some (.int v4), some (.int 1), some (.long v6), none, some (.long v8), none, some (.int (v10 + 1)), some (.int ((σ.2 15) ((26 * v1) + v10).toNatClampNeg))]) (st' := []) k_Md_work rfl rfl ?_
                      refine gm_j k_Md_work rfl rfl ?_
                      exact ihm _ _ _ _ _ _ _ _ _ hp _
                · skip
                  rw [if_neg (show ¬ ((q_hasS v8 ((σ.2 15) ((26 * v1) + v10).toNatClampNeg)) = 0) from h30)] at hp
                  refine gm_p k_Md_work rfl rfl ?_
                  refine gm_j k_Md_work rfl rfl ?_
                  refine gm_sto k_Md_work rfl rfl (gi_in g27) (by decide) ?_
                  refine gm_p k_Md_work rfl rfl ?_
                  refine gm_if k_Md_work rfl rfl rfl (fun h33 => ?_) (fun h33 => ?_)
                  · skip
                    rw [if_neg (show ¬ (v5 = 0) from h33)] at hp
                    refine gm_p k_Md_work rfl rfl ?_
                    refine gm_j k_Md_work rfl rfl ?_
                    refine gm_p (L' := [some (.ref a), some (.int v1), some (.int v2), some (.int v3), some (.int v4), some (.int 1), some (.long v6), none, some (.long v8), none, some (.int v10), some (.int ((σ.2 15) ((26 * v1) + v10).toNatClampNeg))]) (st' := []) k_Md_work rfl rfl ?_
                    refine gm_p (L' := [some (.ref a), some (.int v1), some (.int v2), some (.int v3), some (.int v4), some (.int 1), some (.long v6), none, some (.long v8), none, some (.int (v10 + 1)), some (.int ((σ.2 15) ((26 * v1) + v10).toNatClampNeg))]) (st' := []) k_Md_work rfl rfl ?_
                    refine gm_j k_Md_work rfl rfl ?_
                    exact ihm _ _ _ _ _ _ _ _ _ hp _
                  · skip
                    rw [if_pos (show v5 = 0 from h33)] at hp
                    refine gm_p k_Md_work rfl rfl ?_
                    refine gm_g k_Md_work rfl rfl rfl rfl ?_
                    refine gm_p k_Md_work rfl rfl ?_
                    refine gm_ld k_Md_work rfl rfl (gi_in g27) (by decide) ?_
                    refine gm_if k_Md_work rfl rfl rfl (fun h34 => ?_) (fun h34 => ?_)
                    · skip
                      rw [if_pos (show ((upd (σ.2 38) ((σ.2 15) ((26 * v1) + v10).toNatClampNeg).toNatClampNeg 0) ((σ.2 15) ((26 * v1) + v10).toNatClampNeg).toNatClampNeg) = 0 from h34)] at hp
                      refine gm_p k_Md_work rfl rfl ?_
                      refine gm_p (L' := [some (.ref a), some (.int v1), some (.int v2), some (.int v3), some (.int v4), some (.int 0), some (.long v6), none, some (.long v8), none, some (.int v10), some (.int ((σ.2 15) ((26 * v1) + v10).toNatClampNeg))]) (st' := []) k_Md_work rfl rfl ?_
                      refine gm_p (L' := [some (.ref a), some (.int v1), some (.int v2), some (.int v3), some (.int v4), some (.int 0), some (.long v6), none, some (.long v8), none, some (.int (v10 + 1)), some (.int ((σ.2 15) ((26 * v1) + v10).toNatClampNeg))]) (st' := []) k_Md_work rfl rfl ?_
                      refine gm_j k_Md_work rfl rfl ?_
                      exact ihm _ _ _ _ _ _ _ _ _ hp _
                    · skip
                      rw [if_neg (show ¬ (((upd (σ.2 38) ((σ.2 15) ((26 * v1) + v10).toNatClampNeg).toNatClampNeg 0) ((σ.2 15) ((26 * v1) + v10).toNatClampNeg).toNatClampNeg) = 0) from h34)] at hp
                      refine gm_p k_Md_work rfl rfl ?_
                      refine gm_j k_Md_work rfl rfl ?_
                      refine gm_p (L' := [some (.ref a), some (.int v1), some (.int v2), some (.int v3), some (.int v4), some (.int 1), some (.long v6), none, some (.long v8), none, some (.int v10), some (.int ((σ.2 15) ((26 * v1) + v10).toNatClampNeg))]) (st' := []) k_Md_work rfl rfl ?_
                      refine gm_p (L' := [some (.ref a), some (.int v1), some (.int v2), some (.int v3), some (.int v4), some (.int 1), some (.long v6), none, some (.long v8), none, some (.int (v10 + 1)), some (.int ((σ.2 15) ((26 * v1) + v10).toNatClampNeg))]) (st' := []) k_Md_work rfl rfl ?_
                      refine gm_j k_Md_work rfl rfl ?_
                      exact ihm _ _ _ _ _ _ _ _ _ hp _
              · skip
                rw [if_neg (show ¬ ((q_hasS v6 ((σ.2 15) ((26 * v1) + v10).toNatClampNeg)) = 0) from h29)] at hp
                refine gm_p k_Md_work rfl rfl ?_
                refine gm_j k_Md_work rfl rfl ?_
                refine gm_sto k_Md_work rfl rfl (gi_in g27) (by decide) ?_
                refine gm_p k_Md_work rfl rfl ?_
                refine gm_if k_Md_work rfl rfl rfl (fun h35 => ?_) (fun h35 => ?_)
                · skip
                  rw [if_neg (show ¬ (v5 = 0) from h35)] at hp
                  refine gm_p k_Md_work rfl rfl ?_
                  refine gm_j k_Md_work rfl rfl ?_
                  refine gm_p (L' := [some (.ref a), some (.int v1), some (.int v2), some (.int v3), some (.int v4), some (.int 1), some (.long v6), none, some (.long v8), none, some (.int v10), some (.int ((σ.2 15) ((26 * v1) + v10).toNatClampNeg))]) (st' := []) k_Md_work rfl rfl ?_
                  refine gm_p (L' := [some (.ref a), some (.int v1), some (.int v2), some (.int v3), some (.int v4), some (.int 1), some (.long v6), none, some (.long v8), none, some (.int (v10 + 1)), some (.int ((σ.2 15) ((26 * v1) + v10).toNatClampNeg))]) (st' := []) k_Md_work rfl rfl ?_
                  refine gm_j k_Md_work rfl rfl ?_
                  exact ihm _ _ _ _ _ _ _ _ _ hp _
                · skip
                  rw [if_pos (show v5 = 0 from h35)] at hp
                  refine gm_p k_Md_work rfl rfl ?_
                  refine gm_g k_Md_work rfl rfl rfl rfl ?_
                  refine gm_p k_Md_work rfl rfl ?_
                  refine gm_ld k_Md_work rfl rfl (gi_in g27) (by decide) ?_
                  refine gm_if k_Md_work rfl rfl rfl (fun h36 => ?_) (fun h36 => ?_)
                  · skip
                    rw [if_pos (show ((upd (σ.2 38) ((σ.2 15) ((26 * v1) + v10).toNatClampNeg).toNatClampNeg 1) ((σ.2 15) ((26 * v1) + v10).toNatClampNeg).toNatClampNeg) = 0 from h36)] at hp
                    refine gm_p k_Md_work rfl rfl ?_
                    refine gm_p (L' := [some (.ref a), some (.int v1), some (.int v2), some (.int v3), some (.int v4), some (.int 0), some (.long v6), none, some (.long v8), none, some (.int v10), some (.int ((σ.2 15) ((26 * v1) + v10).toNatClampNeg))]) (st' := []) k_Md_work rfl rfl ?_
                    refine gm_p (L' := [some (.ref a), some (.int v1), some (.int v2), some (.int v3), some (.int v4), some (.int 0), some (.long v6), none, some (.long v8), none, some (.int (v10 + 1)), some (.int ((σ.2 15) ((26 * v1) + v10).toNatClampNeg))]) (st' := []) k_Md_work rfl rfl ?_
                    refine gm_j k_Md_work rfl rfl ?_
                    exact ihm _ _ _ _ _ _ _ _ _ hp _
                  · skip
                    rw [if_neg (show ¬ (((upd (σ.2 38) ((σ.2 15) ((26 * v1) + v10).toNatClampNeg).toNatClampNeg 1) ((σ.2 15) ((26 * v1) + v10).toNatClampNeg).toNatClampNeg) = 0) from h36)] at hp
                    refine gm_p k_Md_work rfl rfl ?_
                    refine gm_j k_Md_work rfl rfl ?_
                    refine gm_p (L' := [some (.ref a), some (.int v1), some (.int v2), some (.int v3), some (.int v4), some (.int 1), some (.long v6), none, some (.long v8), none, some (.int v10), some (.int ((σ.2 15) ((26 * v1) + v10).toNatClampNeg))]) (st' := []) k_Md_work rfl rfl ?_
                    refine gm_p (L' := [some (.ref a), some (.int v1), some (.int v2), some (.int v3), some (.int v4), some (.int 1), some (.long v6), none, some (.long v8), none, some (.int (v10 + 1)), some (.int ((σ.2 15) ((26 * v1) + v10).toNatClampNeg))]) (st' := []) k_Md_work rfl rfl ?_
                    refine gm_j k_Md_work rfl rfl ?_
                    exact ihm _ _ _ _ _ _ _ _ _ hp _
            · skip
              rw [if_neg (show ¬ (((σ.2 38) ((σ.2 15) ((26 * v1) + v10).toNatClampNeg).toNatClampNeg) = 0) from h28)] at hp
              refine gm_j k_Md_work rfl rfl ?_
              refine gm_p (L' := [some (.ref a), some (.int v1), some (.int v2), some (.int v3), some (.int v4), some (.int v5), some (.long v6), none, some (.long v8), none, some (.int (v10 + 1)), some (.int ((σ.2 15) ((26 * v1) + v10).toNatClampNeg))]) (st' := []) k_Md_work rfl rfl ?_
              refine gm_j k_Md_work rfl rfl ?_
              exact ihm _ _ _ _ _ _ _ _ _ hp _
          · rw [if_neg g27] at hp
            cases hp
        · rw [if_neg g26] at hp
          cases hp
    · rw [if_neg g24] at hp
      cases hp
def sp_Md_work_124   : Nat → Int32 → Int32 → Int32 → Int32 → Int32 → gm_S → Option (Int32 × gm_S)
  | 0, _, _, _, _, _, _ => none
  | m + 1, v1, v2, v3, v4, v5, σ => (if v5 = 0 then sp_Md_work_272   2601 v1 v2 v3 v4 v5 0 σ else (if gi v1 7 = true then (match sp_Md_must ((σ.2 16) v1.toNatClampNeg) v4 σ with
  | none => none
  | some y22 => (match sp_Md_can ((y22.2.2 16) v1.toNatClampNeg) v4 1 y22.2 with
  | none => none
  | some y23 => sp_Md_work_164  (sp_Md_work_124   m) 2601 v1 v2 v3 v4 0 y22.1 y23.1 0 y23.2)) else none))
theorem c_sp_Md_work_124  {r : Int32 × gm_S} : ∀ (m : Nat) (v1 : Int32) (v2 : Int32) (v3 : Int32) (v4 : Int32) (v5 : Int32) (σ : gm_S), sp_Md_work_124   m v1 v2 v3 v4 v5 σ = some r → ∀ x6 x7 x8 x9 x10 x11 : Option Value, gm_Go l F (d + 607) m_Md_work a A 124 ([some (.ref a), some (.int v1), some (.int v2), some (.int v3), some (.int v4), some (.int v5), x6, x7, x8, x9, x10, x11]) [] σ (fun w σ' => w = some (.int r.1) ∧ σ' = r.2) := by
  intro m
  induction m with
  | zero => intro v1 v2 v3 v4 v5 σ hp; cases hp
  | succ m ihm =>
    intro v1 v2 v3 v4 v5 σ hp x6 x7 x8 x9 x10 x11
    unfold sp_Md_work_124 at hp
    refine gm_p k_Md_work rfl rfl ?_
    refine gm_if k_Md_work rfl rfl rfl (fun h7 => ?_) (fun h7 => ?_)
    · skip
      rw [if_pos (show v5 = 0 from h7)] at hp
      refine gm_p k_Md_work rfl rfl ?_
      refine gm_p (L' := [some (.ref a), some (.int v1), some (.int v2), some (.int v3), some (.int v4), some (.int v5), some (.int 0), x7, x8, x9, x10, x11]) (st' := []) k_Md_work rfl rfl ?_
      exact c_sp_Md_work_272   _ _ _ _ _ _ _ _ hp _ _ _ _ _
    · skip
      rw [if_neg (show ¬ (v5 = 0) from h7)] at hp
      refine gm_p k_Md_work rfl rfl ?_
      refine gm_p k_Md_work rfl rfl ?_
      refine gm_g k_Md_work rfl rfl rfl rfl ?_
      refine gm_p k_Md_work rfl rfl ?_
      by_cases g21 : gi v1 7 = true
      · rw [if_pos g21] at hp
        refine gm_ld k_Md_work rfl rfl (gi_in g21) (by decide) ?_
        refine gm_p k_Md_work rfl rfl ?_
        cases hy22 : sp_Md_must ((σ.2 16) v1.toNatClampNeg) v4 σ with
        | none =>
          rw [hy22] at hp
          cases hp
        | some y22 =>
          rw [hy22] at hp
          dsimp only at hp
          refine gm_ivB (M' := m_Md_must) (As := [.int ((σ.2 16) v1.toNatClampNeg), .int v4]) k_Md_work rfl rfl rfl rfl rfl rfl (Nat.le_of_ble_eq_true rfl) (c_sp_Md_must hy22) (fun hby22 => ?_)
          refine gm_p (L' := [some (.ref a), some (.int v1), some (.int v2), some (.int v3), some (.int v4), some (.int v5), some (.long y22.1), none, x8, x9, x10, x11]) (st' := []) k_Md_work rfl rfl ?_
          refine gm_p k_Md_work rfl rfl ?_
          refine gm_p k_Md_work rfl rfl ?_
          refine gm_g k_Md_work rfl rfl rfl rfl ?_
          refine gm_p k_Md_work rfl rfl ?_
          refine gm_ld k_Md_work rfl rfl (gi_in g21) (by decide) ?_
          refine gm_p k_Md_work rfl rfl ?_
          refine gm_p k_Md_work rfl rfl ?_
          cases hy23 : sp_Md_can ((y22.2.2 16) v1.toNatClampNeg) v4 1 y22.2 with
          | none =>
            rw [hy23] at hp
            cases hp
          | some y23 =>
            rw [hy23] at hp
            dsimp only at hp
            refine gm_ivB (M' := m_Md_can) (As := [.int ((y22.2.2 16) v1.toNatClampNeg), .int v4, .int 1]) k_Md_work rfl rfl rfl rfl rfl rfl (Nat.le_of_ble_eq_true rfl) (c_sp_Md_can hy23) (fun hby23 => ?_)
            refine gm_p (L' := [some (.ref a), some (.int v1), some (.int v2), some (.int v3), some (.int v4), some (.int v5), some (.long y22.1), none, some (.long y23.1), none, x10, x11]) (st' := []) k_Md_work rfl rfl ?_
            refine gm_p k_Md_work rfl rfl ?_
            refine gm_p (L' := [some (.ref a), some (.int v1), some (.int v2), some (.int v3), some (.int v4), some (.int 0), some (.long y22.1), none, some (.long y23.1), none, x10, x11]) (st' := []) k_Md_work rfl rfl ?_
            refine gm_p k_Md_work rfl rfl ?_
            refine gm_p (L' := [some (.ref a), some (.int v1), some (.int v2), some (.int v3), some (.int v4), some (.int 0), some (.long y22.1), none, some (.long y23.1), none, some (.int 0), x11]) (st' := []) k_Md_work rfl rfl ?_
            exact c_sp_Md_work_164  (fun _ _ _ _ _ _ h => ihm _ _ _ _ _ _ h) _ _ _ _ _ _ _ _ _ _ hp _
      · rw [if_neg g21] at hp
        cases hp
def sp_Md_work_72   : Nat → Int32 → Int32 → Int32 → Int32 → Int32 → gm_S → Option (Int32 × gm_S)
  | 0, _, _, _, _, _, _ => none
  | m + 1, v1, v2, v3, v4, v5, σ => (if gi v1 7 = true then (if ((σ.2 12) v1.toNatClampNeg) ≤ v5 then sp_Md_work_124   2601 v1 v2 v3 v4 1 σ else (if gi ((26 * v1) + v5) 182 = true then (if ((v3 >>> (v5 &&& 31)) &&& 1) = 1 then (if gi ((σ.2 13) ((26 * v1) + v5).toNatClampNeg) 26 = true then sp_Md_work_72   m v1 v2 v3 v4 (v5 + 1) (σ.1, (gm_up σ.2 38 (upd (σ.2 38) ((σ.2 13) ((26 * v1) + v5).toNatClampNeg).toNatClampNeg 1))) else none) else (if gi ((σ.2 13) ((26 * v1) + v5).toNatClampNeg) 26 = true then sp_Md_work_72   m v1 v2 v3 v4 (v5 + 1) (σ.1, (gm_up σ.2 38 (upd (σ.2 38) ((σ.2 13) ((26 * v1) + v5).toNatClampNeg).toNatClampNeg 2))) else none)) else none)) else none)
theorem c_sp_Md_work_72  {r : Int32 × gm_S} : ∀ (m : Nat) (v1 : Int32) (v2 : Int32) (v3 : Int32) (v4 : Int32) (v5 : Int32) (σ : gm_S), sp_Md_work_72   m v1 v2 v3 v4 v5 σ = some r → ∀ x6 x7 x8 x9 x10 x11 : Option Value, gm_Go l F (d + 607) m_Md_work a A 72 ([some (.ref a), some (.int v1), some (.int v2), some (.int v3), some (.int v4), some (.int v5), x6, x7, x8, x9, x10, x11]) [] σ (fun w σ' => w = some (.int r.1) ∧ σ' = r.2) := by
  intro m
  induction m with
  | zero => intro v1 v2 v3 v4 v5 σ hp; cases hp
  | succ m ihm =>
    intro v1 v2 v3 v4 v5 σ hp x6 x7 x8 x9 x10 x11
    unfold sp_Md_work_72 at hp
    refine gm_p k_Md_work rfl rfl ?_
    refine gm_p k_Md_work rfl rfl ?_
    refine gm_g k_Md_work rfl rfl rfl rfl ?_
    refine gm_p k_Md_work rfl rfl ?_
    by_cases g5 : gi v1 7 = true
    · rw [if_pos g5] at hp
      refine gm_ld k_Md_work rfl rfl (gi_in g5) (by decide) ?_
      refine gm_ic k_Md_work rfl rfl rfl (fun h6 => ?_) (fun h6 => ?_)
      · skip
        rw [if_pos (show ((σ.2 12) v1.toNatClampNeg) ≤ v5 from h6)] at hp
        refine gm_p k_Md_work rfl rfl ?_
        refine gm_p (L' := [some (.ref a), some (.int v1), some (.int v2), some (.int v3), some (.int v4), some (.int 1), x6, x7, x8, x9, x10, x11]) (st' := []) k_Md_work rfl rfl ?_
        exact c_sp_Md_work_124   _ _ _ _ _ _ _ hp _ _ _ _ _ _
      · skip
        rw [if_neg (show ¬ (((σ.2 12) v1.toNatClampNeg) ≤ v5) from h6)] at hp
        refine gm_p k_Md_work rfl rfl ?_
        refine gm_g k_Md_work rfl rfl rfl rfl ?_
        refine gm_p k_Md_work rfl rfl ?_
        refine gm_g k_Md_work rfl rfl rfl rfl ?_
        refine gm_p k_Md_work rfl rfl ?_
        refine gm_p k_Md_work rfl rfl ?_
        refine gm_p k_Md_work rfl rfl ?_
        refine gm_p k_Md_work rfl rfl ?_
        refine gm_p k_Md_work rfl rfl ?_
        by_cases g37 : gi ((26 * v1) + v5) 182 = true
        · rw [if_pos g37] at hp
          refine gm_ld k_Md_work rfl rfl (gi_in g37) (by decide) ?_
          refine gm_p k_Md_work rfl rfl ?_
          refine gm_p k_Md_work rfl rfl ?_
          refine gm_p k_Md_work rfl rfl ?_
          refine gm_p k_Md_work rfl rfl ?_
          refine gm_p k_Md_work rfl rfl ?_
          refine gm_p k_Md_work rfl rfl ?_
          refine gm_ic k_Md_work rfl rfl rfl (fun h38 => ?_) (fun h38 => ?_)
          · skip
            rw [if_neg (show ¬ (((v3 >>> (v5 &&& 31)) &&& 1) = 1) from h38)] at hp
            refine gm_p k_Md_work rfl rfl ?_
            by_cases g39 : gi ((σ.2 13) ((26 * v1) + v5).toNatClampNeg) 26 = true
            · rw [if_pos g39] at hp
              refine gm_sto k_Md_work rfl rfl (gi_in g39) (by decide) ?_
              refine gm_p (L' := [some (.ref a), some (.int v1), some (.int v2), some (.int v3), some (.int v4), some (.int (v5 + 1)), x6, x7, x8, x9, x10, x11]) (st' := []) k_Md_work rfl rfl ?_
              refine gm_j k_Md_work rfl rfl ?_
              exact ihm _ _ _ _ _ _ hp _ _ _ _ _ _
            · rw [if_neg g39] at hp
              cases hp
          · skip
            rw [if_pos (show ((v3 >>> (v5 &&& 31)) &&& 1) = 1 from h38)] at hp
            refine gm_p k_Md_work rfl rfl ?_
            refine gm_j k_Md_work rfl rfl ?_
            by_cases g40 : gi ((σ.2 13) ((26 * v1) + v5).toNatClampNeg) 26 = true
            · rw [if_pos g40] at hp
              refine gm_sto k_Md_work rfl rfl (gi_in g40) (by decide) ?_
              refine gm_p (L' := [some (.ref a), some (.int v1), some (.int v2), some (.int v3), some (.int v4), some (.int (v5 + 1)), x6, x7, x8, x9, x10, x11]) (st' := []) k_Md_work rfl rfl ?_
              refine gm_j k_Md_work rfl rfl ?_
              exact ihm _ _ _ _ _ _ hp _ _ _ _ _ _
            · rw [if_neg g40] at hp
              cases hp
        · rw [if_neg g37] at hp
          cases hp
    · rw [if_neg g5] at hp
      cases hp
def sp_Md_work_48   : Nat → Int32 → Int32 → Int32 → Int32 → Int32 → gm_S → Option (Int32 × gm_S)
  | 0, _, _, _, _, _, _ => none
  | m + 1, v1, v2, v3, v4, v5, σ => (if (26 : Int32) ≤ v5 then sp_Md_work_72   2601 v1 v2 v3 v4 0 σ else (if gi v5 26 = true then sp_Md_work_48   m v1 v2 v3 v4 (v5 + 1) (σ.1, (gm_up σ.2 38 (upd (σ.2 38) v5.toNatClampNeg 0))) else none))
theorem c_sp_Md_work_48  {r : Int32 × gm_S} : ∀ (m : Nat) (v1 : Int32) (v2 : Int32) (v3 : Int32) (v4 : Int32) (v5 : Int32) (σ : gm_S), sp_Md_work_48   m v1 v2 v3 v4 v5 σ = some r → ∀ x6 x7 x8 x9 x10 x11 : Option Value, gm_Go l F (d + 607) m_Md_work a A 48 ([some (.ref a), some (.int v1), some (.int v2), some (.int v3), some (.int v4), some (.int v5), x6, x7, x8, x9, x10, x11]) [] σ (fun w σ' => w = some (.int r.1) ∧ σ' = r.2) := by
  intro m
  induction m with
  | zero => intro v1 v2 v3 v4 v5 σ hp; cases hp
  | succ m ihm =>
    intro v1 v2 v3 v4 v5 σ hp x6 x7 x8 x9 x10 x11
    unfold sp_Md_work_48 at hp
    refine gm_p k_Md_work rfl rfl ?_
    refine gm_p k_Md_work rfl rfl ?_
    refine gm_ic k_Md_work rfl rfl rfl (fun h4 => ?_) (fun h4 => ?_)
    · skip
      rw [if_pos (show (26 : Int32) ≤ v5 from h4)] at hp
      refine gm_p k_Md_work rfl rfl ?_
      refine gm_p (L' := [some (.ref a), some (.int v1), some (.int v2), some (.int v3), some (.int v4), some (.int 0), x6, x7, x8, x9, x10, x11]) (st' := []) k_Md_work rfl rfl ?_
      exact c_sp_Md_work_72   _ _ _ _ _ _ _ hp _ _ _ _ _ _
    · skip
      rw [if_neg (show ¬ ((26 : Int32) ≤ v5) from h4)] at hp
      refine gm_p k_Md_work rfl rfl ?_
      refine gm_g k_Md_work rfl rfl rfl rfl ?_
      refine gm_p k_Md_work rfl rfl ?_
      refine gm_p k_Md_work rfl rfl ?_
      by_cases g41 : gi v5 26 = true
      · rw [if_pos g41] at hp
        refine gm_sto k_Md_work rfl rfl (gi_in g41) (by decide) ?_
        refine gm_p (L' := [some (.ref a), some (.int v1), some (.int v2), some (.int v3), some (.int v4), some (.int (v5 + 1)), x6, x7, x8, x9, x10, x11]) (st' := []) k_Md_work rfl rfl ?_
        refine gm_j k_Md_work rfl rfl ?_
        exact ihm _ _ _ _ _ _ hp _ _ _ _ _ _
      · rw [if_neg g41] at hp
        cases hp
def sp_Md_work  (v1 : Int32) (v2 : Int32) (v3 : Int32) (σ : gm_S) : Option (Int32 × gm_S) := (if v2 = (-3) then some (0, ((upd (upd σ.1 42 v2) 43 0), σ.2)) else (if v2 = (-2) then sp_Md_work_48   2601 v1 v2 v3 0 0 ((upd (upd (upd σ.1 42 v2) 43 0) 39 0), σ.2) else sp_Md_work_48   2601 v1 v2 v3 1 0 ((upd (upd (upd σ.1 42 v2) 43 0) 39 v2), σ.2)))
theorem c_sp_Md_work  {v1 : Int32} {v2 : Int32} {v3 : Int32} {σ : gm_S} {r : Int32 × gm_S} (hp : sp_Md_work  v1 v2 v3 σ = some r) : gm_Has l F (d + 607) m_Md_work a A [.int v1, .int v2, .int v3] σ (fun w σ' => w = some (.int r.1) ∧ σ' = r.2) := by
  refine gm_meth (k := 8) (L := [some (.ref a), some (.int v1), some (.int v2), some (.int v3), none, none, none, none, none, none, none, none]) pn_Md rfl (Nat.le_of_ble_eq_true rfl) ?_
  unfold sp_Md_work at hp
  refine gm_p k_Md_work rfl rfl ?_
  refine gm_p k_Md_work rfl rfl ?_
  refine gm_pt k_Md_work rfl rfl rfl trivial (by decide) rfl ?_
  refine gm_p k_Md_work rfl rfl ?_
  refine gm_p k_Md_work rfl rfl ?_
  refine gm_pt k_Md_work rfl rfl rfl trivial (by decide) rfl ?_
  refine gm_p k_Md_work rfl rfl ?_
  refine gm_p k_Md_work rfl rfl ?_
  refine gm_ic k_Md_work rfl rfl rfl (fun h1 => ?_) (fun h1 => ?_)
  · skip
    rw [if_neg (show ¬ (v2 = (-3)) from h1)] at hp
    refine gm_p k_Md_work rfl rfl ?_
    refine gm_p k_Md_work rfl rfl ?_
    refine gm_ic k_Md_work rfl rfl rfl (fun h2 => ?_) (fun h2 => ?_)
    · skip
      rw [if_pos (show v2 = (-2) from h2)] at hp
      refine gm_p k_Md_work rfl rfl ?_
      refine gm_p (L' := [some (.ref a), some (.int v1), some (.int v2), some (.int v3), some (.int 0), none, none, none, none, none, none, none]) (st' := []) k_Md_work rfl rfl ?_
      refine gm_p k_Md_work rfl rfl ?_
      refine gm_p k_Md_work rfl rfl ?_
      refine gm_if k_Md_work rfl rfl rfl (fun h3 => ?_) (fun h3 => ?_)
      · skip
        refine gm_p k_Md_work rfl rfl ?_
        refine gm_pt k_Md_work rfl rfl rfl trivial (by decide) rfl ?_
        refine gm_p k_Md_work rfl rfl ?_
        refine gm_p (L' := [some (.ref a), some (.int v1), some (.int v2), some (.int v3), some (.int 0), some (.int 0), none, none, none, none, none, none]) (st' := []) k_Md_work rfl rfl ?_
        exact c_sp_Md_work_48   _ _ _ _ _ _ _ hp _ _ _ _ _ _
      · skip
        exact absurd h3 (by decide)
    · skip
      rw [if_neg (show ¬ (v2 = (-2)) from h2)] at hp
      refine gm_p k_Md_work rfl rfl ?_
      refine gm_j k_Md_work rfl rfl ?_
      refine gm_p (L' := [some (.ref a), some (.int v1), some (.int v2), some (.int v3), some (.int 1), none, none, none, none, none, none, none]) (st' := []) k_Md_work rfl rfl ?_
      refine gm_p k_Md_work rfl rfl ?_
      refine gm_p k_Md_work rfl rfl ?_
      refine gm_if k_Md_work rfl rfl rfl (fun h42 => ?_) (fun h42 => ?_)
      · skip
        exact absurd h42 (by decide)
      · skip
        refine gm_p k_Md_work rfl rfl ?_
        refine gm_j k_Md_work rfl rfl ?_
        refine gm_pt k_Md_work rfl rfl rfl trivial (by decide) rfl ?_
        refine gm_p k_Md_work rfl rfl ?_
        refine gm_p (L' := [some (.ref a), some (.int v1), some (.int v2), some (.int v3), some (.int 1), some (.int 0), none, none, none, none, none, none]) (st' := []) k_Md_work rfl rfl ?_
        exact c_sp_Md_work_48   _ _ _ _ _ _ _ hp _ _ _ _ _ _
  · skip
    rw [if_pos (show v2 = (-3) from h1)] at hp
    refine gm_p k_Md_work rfl rfl ?_
    cases hp
    exact gm_ret (v := some (.int _)) k_Md_work rfl rfl trivial rfl ⟨rfl, rfl⟩
def sp_Md_tick  (v1 : Int32) (v2 : Int32) (σ : gm_S) : Option (Int32 × gm_S) := (match sp_Md_isInstance  v1 ((upd σ.1 0 0), σ.2) with
  | none => none
  | some y1 => (if y1.1 = 0 then some ((-1), y1.2) else (if v2 < 0 then some ((-1), y1.2) else (if gi v1 8 = true then (if gi ((y1.2.2 45) v1.toNatClampNeg) 7 = true then (if (v2 >>> (((y1.2.2 12) ((y1.2.2 45) v1.toNatClampNeg).toNatClampNeg) &&& 31)) = 0 then (match sp_Md_work  ((y1.2.2 45) v1.toNatClampNeg) ((y1.2.2 46) v1.toNatClampNeg) v2 y1.2 with
  | none => none
  | some y7 => (if y7.1 = 0 then some (0, (y7.2.1, (gm_up (gm_up (gm_up y7.2.2 46 (upd (y7.2.2 46) v1.toNatClampNeg (y7.2.1 42))) 47 (upd (y7.2.2 47) v1.toNatClampNeg (y7.2.1 43))) 48 (upd (y7.2.2 48) v1.toNatClampNeg (((y7.2.2 48) v1.toNatClampNeg) + 1))))) else some (y7.1, y7.2))) else some ((-1), y1.2)) else none) else none))))
theorem c_sp_Md_tick  {v1 : Int32} {v2 : Int32} {σ : gm_S} {r : Int32 × gm_S} (hp : sp_Md_tick  v1 v2 σ = some r) : gm_Has l F (d + 608) m_Md_tick a A [.int v1, .int v2] σ (fun w σ' => w = some (.int r.1) ∧ σ' = r.2) := by
  refine gm_meth (k := 1) (L := [some (.ref a), some (.int v1), some (.int v2), none]) pn_Md rfl (Nat.le_of_ble_eq_true rfl) ?_
  unfold sp_Md_tick at hp
  refine gm_p k_Md_tick rfl rfl ?_
  refine gm_p k_Md_tick rfl rfl ?_
  refine gm_pt k_Md_tick rfl rfl rfl trivial (by decide) rfl ?_
  refine gm_p k_Md_tick rfl rfl ?_
  refine gm_p k_Md_tick rfl rfl ?_
  cases hy1 : sp_Md_isInstance  v1 ((upd σ.1 0 0), σ.2) with
  | none =>
    rw [hy1] at hp
    cases hp
  | some y1 =>
    rw [hy1] at hp
    dsimp only at hp
    refine gm_ivB (M' := m_Md_isInstance) (As := [.int v1]) k_Md_tick rfl rfl rfl rfl rfl rfl (Nat.le_of_ble_eq_true rfl) (c_sp_Md_isInstance  hy1) (fun hby1 => ?_)
    refine gm_if k_Md_tick rfl rfl rfl (fun h2 => ?_) (fun h2 => ?_)
    · skip
      rw [if_pos (show y1.1 = 0 from h2)] at hp
      refine gm_p k_Md_tick rfl rfl ?_
      cases hp
      exact gm_ret (v := some (.int _)) k_Md_tick rfl rfl trivial rfl ⟨rfl, rfl⟩
    · skip
      rw [if_neg (show ¬ (y1.1 = 0) from h2)] at hp
      refine gm_p k_Md_tick rfl rfl ?_
      refine gm_if k_Md_tick rfl rfl rfl (fun h3 => ?_) (fun h3 => ?_)
      · skip
        rw [if_pos (show v2 < 0 from h3)] at hp
        refine gm_p k_Md_tick rfl rfl ?_
        cases hp
        exact gm_ret (v := some (.int _)) k_Md_tick rfl rfl trivial rfl ⟨rfl, rfl⟩
      · skip
        rw [if_neg (show ¬ (v2 < 0) from h3)] at hp
        refine gm_p k_Md_tick rfl rfl ?_
        refine gm_p k_Md_tick rfl rfl ?_
        refine gm_g k_Md_tick rfl rfl rfl rfl ?_
        refine gm_p k_Md_tick rfl rfl ?_
        refine gm_g k_Md_tick rfl rfl rfl rfl ?_
        refine gm_p k_Md_tick rfl rfl ?_
        by_cases g4 : gi v1 8 = true
        · rw [if_pos g4] at hp
          refine gm_ld k_Md_tick rfl rfl (gi_in g4) (by decide) ?_
          by_cases g5 : gi ((y1.2.2 45) v1.toNatClampNeg) 7 = true
          · rw [if_pos g5] at hp
            refine gm_ld k_Md_tick rfl rfl (gi_in g5) (by decide) ?_
            refine gm_p k_Md_tick rfl rfl ?_
            refine gm_if k_Md_tick rfl rfl rfl (fun h6 => ?_) (fun h6 => ?_)
            · skip
              rw [if_pos (show (v2 >>> (((y1.2.2 12) ((y1.2.2 45) v1.toNatClampNeg).toNatClampNeg) &&& 31)) = 0 from h6)] at hp
              refine gm_p k_Md_tick rfl rfl ?_
              refine gm_p k_Md_tick rfl rfl ?_
              refine gm_g k_Md_tick rfl rfl rfl rfl ?_
              refine gm_p k_Md_tick rfl rfl ?_
              refine gm_ld k_Md_tick rfl rfl (gi_in g4) (by decide) ?_
              refine gm_p k_Md_tick rfl rfl ?_
              refine gm_g k_Md_tick rfl rfl rfl rfl ?_
              refine gm_p k_Md_tick rfl rfl ?_
              refine gm_ld k_Md_tick rfl rfl (gi_in g4) (by decide) ?_
              refine gm_p k_Md_tick rfl rfl ?_
              cases hy7 : sp_Md_work  ((y1.2.2 45) v1.toNatClampNeg) ((y1.2.2 46) v1.toNatClampNeg) v2 y1.2 with
              | none =>
                rw [hy7] at hp
                cases hp
              | some y7 =>
                rw [hy7] at hp
                dsimp only at hp
                refine gm_ivB (M' := m_Md_work) (As := [.int ((y1.2.2 45) v1.toNatClampNeg), .int ((y1.2.2 46) v1.toNatClampNeg), .int v2]) k_Md_tick rfl rfl rfl rfl rfl rfl (Nat.le_of_ble_eq_true rfl) (c_sp_Md_work  hy7) (fun hby7 => ?_)
                refine gm_p (L' := [some (.ref a), some (.int v1), some (.int v2), some (.int y7.1)]) (st' := []) k_Md_tick rfl rfl ?_
                refine gm_p k_Md_tick rfl rfl ?_
                refine gm_if k_Md_tick rfl rfl rfl (fun h8 => ?_) (fun h8 => ?_)
                · skip
                  rw [if_pos (show y7.1 = 0 from h8)] at hp
                  refine gm_p k_Md_tick rfl rfl ?_
                  refine gm_g k_Md_tick rfl rfl rfl rfl ?_
                  refine gm_p k_Md_tick rfl rfl ?_
                  refine gm_p k_Md_tick rfl rfl ?_
                  refine gm_g k_Md_tick rfl rfl rfl rfl ?_
                  refine gm_sto k_Md_tick rfl rfl (gi_in g4) (by decide) ?_
                  refine gm_p k_Md_tick rfl rfl ?_
                  refine gm_g k_Md_tick rfl rfl rfl rfl ?_
                  refine gm_p k_Md_tick rfl rfl ?_
                  refine gm_p k_Md_tick rfl rfl ?_
                  refine gm_g k_Md_tick rfl rfl rfl rfl ?_
                  refine gm_sto k_Md_tick rfl rfl (gi_in g4) (by decide) ?_
                  refine gm_p k_Md_tick rfl rfl ?_
                  refine gm_g k_Md_tick rfl rfl rfl rfl ?_
                  refine gm_p k_Md_tick rfl rfl ?_
                  refine gm_p k_Md_tick rfl rfl ?_
                  refine gm_ld k_Md_tick rfl rfl (gi_in g4) (by decide) ?_
                  refine gm_p k_Md_tick rfl rfl ?_
                  refine gm_p k_Md_tick rfl rfl ?_
                  refine gm_sto k_Md_tick rfl rfl (gi_in g4) (by decide) ?_
                  refine gm_p k_Md_tick rfl rfl ?_
                  cases hp
                  exact gm_ret (v := some (.int _)) k_Md_tick rfl rfl trivial rfl ⟨rfl, rfl⟩
                · skip
                  rw [if_neg (show ¬ (y7.1 = 0) from h8)] at hp
                  refine gm_p k_Md_tick rfl rfl ?_
                  cases hp
                  exact gm_ret (v := some (.int _)) k_Md_tick rfl rfl trivial rfl ⟨rfl, rfl⟩
            · skip
              rw [if_neg (show ¬ ((v2 >>> (((y1.2.2 12) ((y1.2.2 45) v1.toNatClampNeg).toNatClampNeg) &&& 31)) = 0) from h6)] at hp
              refine gm_p k_Md_tick rfl rfl ?_
              cases hp
              exact gm_ret (v := some (.int _)) k_Md_tick rfl rfl trivial rfl ⟨rfl, rfl⟩
          · rw [if_neg g5] at hp
            cases hp
        · rw [if_neg g4] at hp
          cases hp
def sp_Md_isIt  (v1 : Int32) (v2 : Int32) (v3 : Int32) (v4 : Int32) (v5 : Int32) (σ : gm_S) : Option (Int32 × gm_S) := (if gi (2 * v4) 600 = true then (match sp_Md_work  v1 ((σ.2 52) (2 * v4).toNatClampNeg) v5 σ with
  | none => none
  | some y2 => (if y2.1 = 0 then (if v3 = (-1) then (if v2 = (-1) then some (0, ((upd (upd (upd y2.2.1 58 (y2.2.1 42)) 59 0) 57 1), y2.2.2)) else (if (((y2.2.1 43) >>> (v2 &&& 31)) &&& 1) = 1 then some (1, ((upd (upd (upd y2.2.1 58 (y2.2.1 42)) 59 0) 57 1), y2.2.2)) else some (0, ((upd (upd (upd y2.2.1 58 (y2.2.1 42)) 59 0) 57 1), y2.2.2)))) else (if gi ((2 * v4) + 1) 600 = true then (match sp_Md_work  v3 ((y2.2.2 52) ((2 * v4) + 1).toNatClampNeg) v5 ((upd (upd (upd y2.2.1 58 (y2.2.1 42)) 59 0) 57 1), y2.2.2) with
  | none => none
  | some y17 => (if y17.1 = 0 then (if (y17.2.1 43) = (y2.2.1 43) then some (0, ((upd y17.2.1 59 (y17.2.1 42)), y17.2.2)) else some (1, ((upd y17.2.1 59 (y17.2.1 42)), y17.2.2))) else some (1, ((upd y17.2.1 59 (y17.2.1 42)), y17.2.2)))) else none)) else (if v3 = (-1) then (if v2 = (-1) then some (1, ((upd (upd (upd y2.2.1 58 (y2.2.1 42)) 59 0) 57 0), y2.2.2)) else some (0, ((upd (upd (upd y2.2.1 58 (y2.2.1 42)) 59 0) 57 0), y2.2.2))) else (if gi ((2 * v4) + 1) 600 = true then (match sp_Md_work  v3 ((y2.2.2 52) ((2 * v4) + 1).toNatClampNeg) v5 ((upd (upd (upd y2.2.1 58 (y2.2.1 42)) 59 0) 57 0), y2.2.2) with
  | none => none
  | some y6 => (if y6.1 = 0 then some (1, ((upd y6.2.1 59 (y6.2.1 42)), y6.2.2)) else some (0, ((upd y6.2.1 59 (y6.2.1 42)), y6.2.2)))) else none)))) else none)
theorem c_sp_Md_isIt  {v1 : Int32} {v2 : Int32} {v3 : Int32} {v4 : Int32} {v5 : Int32} {σ : gm_S} {r : Int32 × gm_S} (hp : sp_Md_isIt  v1 v2 v3 v4 v5 σ = some r) : gm_Has l F (d + 608) m_Md_isIt a A [.int v1, .int v2, .int v3, .int v4, .int v5] σ (fun w σ' => w = some (.int r.1) ∧ σ' = r.2) := by
  refine gm_meth (k := 3) (L := [some (.ref a), some (.int v1), some (.int v2), some (.int v3), some (.int v4), some (.int v5), none, none, none]) pn_Md rfl (Nat.le_of_ble_eq_true rfl) ?_
  unfold sp_Md_isIt at hp
  refine gm_p k_Md_isIt rfl rfl ?_
  refine gm_p k_Md_isIt rfl rfl ?_
  refine gm_p k_Md_isIt rfl rfl ?_
  refine gm_g k_Md_isIt rfl rfl rfl rfl ?_
  refine gm_p k_Md_isIt rfl rfl ?_
  refine gm_p k_Md_isIt rfl rfl ?_
  refine gm_p k_Md_isIt rfl rfl ?_
  by_cases g1 : gi (2 * v4) 600 = true
  · rw [if_pos g1] at hp
    refine gm_ld k_Md_isIt rfl rfl (gi_in g1) (by decide) ?_
    refine gm_p k_Md_isIt rfl rfl ?_
    cases hy2 : sp_Md_work  v1 ((σ.2 52) (2 * v4).toNatClampNeg) v5 σ with
    | none =>
      rw [hy2] at hp
      cases hp
    | some y2 =>
      rw [hy2] at hp
      dsimp only at hp
      refine gm_ivB (M' := m_Md_work) (As := [.int v1, .int ((σ.2 52) (2 * v4).toNatClampNeg), .int v5]) k_Md_isIt rfl rfl rfl rfl rfl rfl (Nat.le_of_ble_eq_true rfl) (c_sp_Md_work  hy2) (fun hby2 => ?_)
      refine gm_p (L' := [some (.ref a), some (.int v1), some (.int v2), some (.int v3), some (.int v4), some (.int v5), some (.int y2.1), none, none]) (st' := []) k_Md_isIt rfl rfl ?_
      refine gm_p k_Md_isIt rfl rfl ?_
      refine gm_g k_Md_isIt rfl rfl rfl rfl ?_
      refine gm_p (L' := [some (.ref a), some (.int v1), some (.int v2), some (.int v3), some (.int v4), some (.int v5), some (.int y2.1), some (.int (y2.2.1 43)), none]) (st' := []) k_Md_isIt rfl rfl ?_
      refine gm_p k_Md_isIt rfl rfl ?_
      refine gm_p k_Md_isIt rfl rfl ?_
      refine gm_g k_Md_isIt rfl rfl rfl rfl ?_
      refine gm_pt k_Md_isIt rfl rfl rfl trivial (by decide) rfl ?_
      refine gm_p k_Md_isIt rfl rfl ?_
      refine gm_p k_Md_isIt rfl rfl ?_
      refine gm_pt k_Md_isIt rfl rfl rfl trivial (by decide) rfl ?_
      refine gm_p k_Md_isIt rfl rfl ?_
      refine gm_p k_Md_isIt rfl rfl ?_
      refine gm_if k_Md_isIt rfl rfl rfl (fun h3 => ?_) (fun h3 => ?_)
      · skip
        rw [if_neg (show ¬ (y2.1 = 0) from h3)] at hp
        refine gm_p k_Md_isIt rfl rfl ?_
        refine gm_pt k_Md_isIt rfl rfl rfl (Or.inl rfl) (by decide) rfl ?_
        refine gm_p k_Md_isIt rfl rfl ?_
        refine gm_p k_Md_isIt rfl rfl ?_
        refine gm_ic k_Md_isIt rfl rfl rfl (fun h4 => ?_) (fun h4 => ?_)
        · skip
          rw [if_neg (show ¬ (v3 = (-1)) from h4)] at hp
          refine gm_p k_Md_isIt rfl rfl ?_
          refine gm_p k_Md_isIt rfl rfl ?_
          refine gm_p k_Md_isIt rfl rfl ?_
          refine gm_g k_Md_isIt rfl rfl rfl rfl ?_
          refine gm_p k_Md_isIt rfl rfl ?_
          refine gm_p k_Md_isIt rfl rfl ?_
          refine gm_p k_Md_isIt rfl rfl ?_
          refine gm_p k_Md_isIt rfl rfl ?_
          refine gm_p k_Md_isIt rfl rfl ?_
          by_cases g5 : gi ((2 * v4) + 1) 600 = true
          · rw [if_pos g5] at hp
            refine gm_ld k_Md_isIt rfl rfl (gi_in g5) (by decide) ?_
            refine gm_p k_Md_isIt rfl rfl ?_
            cases hy6 : sp_Md_work  v3 ((y2.2.2 52) ((2 * v4) + 1).toNatClampNeg) v5 ((upd (upd (upd y2.2.1 58 (y2.2.1 42)) 59 0) 57 0), y2.2.2) with
            | none =>
              rw [hy6] at hp
              cases hp
            | some y6 =>
              rw [hy6] at hp
              dsimp only at hp
              refine gm_ivB (M' := m_Md_work) (As := [.int v3, .int ((y2.2.2 52) ((2 * v4) + 1).toNatClampNeg), .int v5]) k_Md_isIt rfl rfl rfl rfl rfl rfl (Nat.le_of_ble_eq_true rfl) (c_sp_Md_work  hy6) (fun hby6 => ?_)
              refine gm_p (L' := [some (.ref a), some (.int v1), some (.int v2), some (.int v3), some (.int v4), some (.int v5), some (.int y2.1), some (.int (y2.2.1 43)), some (.int y6.1)]) (st' := []) k_Md_isIt rfl rfl ?_
              refine gm_p k_Md_isIt rfl rfl ?_
              refine gm_p k_Md_isIt rfl rfl ?_
              refine gm_g k_Md_isIt rfl rfl rfl rfl ?_
              refine gm_pt k_Md_isIt rfl rfl rfl trivial (by decide) rfl ?_
              refine gm_p k_Md_isIt rfl rfl ?_
              refine gm_if k_Md_isIt rfl rfl rfl (fun h7 => ?_) (fun h7 => ?_)
              · skip
                exact absurd h7 h3
              · skip
                refine gm_p k_Md_isIt rfl rfl ?_
                refine gm_j k_Md_isIt rfl rfl ?_
                refine gm_p k_Md_isIt rfl rfl ?_
                refine gm_if k_Md_isIt rfl rfl rfl (fun h8 => ?_) (fun h8 => ?_)
                · skip
                  rw [if_pos (show y6.1 = 0 from h8)] at hp
                  refine gm_p k_Md_isIt rfl rfl ?_
                  refine gm_ic k_Md_isIt rfl rfl rfl (fun h9 => ?_) (fun h9 => ?_)
                  · skip
                    refine gm_p k_Md_isIt rfl rfl ?_
                    refine gm_j k_Md_isIt rfl rfl ?_
                    cases hp
                    exact gm_ret (v := some (.int _)) k_Md_isIt rfl rfl (Or.inr rfl) rfl ⟨rfl, rfl⟩
                  · skip
                    exact absurd h9 (by decide)
                · skip
                  rw [if_neg (show ¬ (y6.1 = 0) from h8)] at hp
                  refine gm_p k_Md_isIt rfl rfl ?_
                  refine gm_j k_Md_isIt rfl rfl ?_
                  refine gm_ic k_Md_isIt rfl rfl rfl (fun h10 => ?_) (fun h10 => ?_)
                  · skip
                    exact absurd h10 (by decide)
                  · skip
                    refine gm_p k_Md_isIt rfl rfl ?_
                    refine gm_if k_Md_isIt rfl rfl rfl (fun h11 => ?_) (fun h11 => ?_)
                    · skip
                      refine gm_p k_Md_isIt rfl rfl ?_
                      cases hp
                      exact gm_ret (v := some (.int _)) k_Md_isIt rfl rfl (Or.inl rfl) rfl ⟨rfl, rfl⟩
                    · skip
                      exact absurd h11 h3
          · rw [if_neg g5] at hp
            cases hp
        · skip
          rw [if_pos (show v3 = (-1) from h4)] at hp
          refine gm_p k_Md_isIt rfl rfl ?_
          refine gm_p k_Md_isIt rfl rfl ?_
          refine gm_ic k_Md_isIt rfl rfl rfl (fun h12 => ?_) (fun h12 => ?_)
          · skip
            rw [if_neg (show ¬ (v2 = (-1)) from h12)] at hp
            refine gm_p k_Md_isIt rfl rfl ?_
            refine gm_if k_Md_isIt rfl rfl rfl (fun h13 => ?_) (fun h13 => ?_)
            · skip
              refine gm_p k_Md_isIt rfl rfl ?_
              cases hp
              exact gm_ret (v := some (.int _)) k_Md_isIt rfl rfl (Or.inl rfl) rfl ⟨rfl, rfl⟩
            · skip
              exact absurd h13 h3
          · skip
            rw [if_pos (show v2 = (-1) from h12)] at hp
            refine gm_p k_Md_isIt rfl rfl ?_
            refine gm_if k_Md_isIt rfl rfl rfl (fun h14 => ?_) (fun h14 => ?_)
            · skip
              exact absurd h14 h3
            · skip
              refine gm_p k_Md_isIt rfl rfl ?_
              refine gm_j k_Md_isIt rfl rfl ?_
              cases hp
              exact gm_ret (v := some (.int _)) k_Md_isIt rfl rfl (Or.inr rfl) rfl ⟨rfl, rfl⟩
      · skip
        rw [if_pos (show y2.1 = 0 from h3)] at hp
        refine gm_p k_Md_isIt rfl rfl ?_
        refine gm_j k_Md_isIt rfl rfl ?_
        refine gm_pt k_Md_isIt rfl rfl rfl (Or.inr rfl) (by decide) rfl ?_
        refine gm_p k_Md_isIt rfl rfl ?_
        refine gm_p k_Md_isIt rfl rfl ?_
        refine gm_ic k_Md_isIt rfl rfl rfl (fun h15 => ?_) (fun h15 => ?_)
        · skip
          rw [if_neg (show ¬ (v3 = (-1)) from h15)] at hp
          refine gm_p k_Md_isIt rfl rfl ?_
          refine gm_p k_Md_isIt rfl rfl ?_
          refine gm_p k_Md_isIt rfl rfl ?_
          refine gm_g k_Md_isIt rfl rfl rfl rfl ?_
          refine gm_p k_Md_isIt rfl rfl ?_
          refine gm_p k_Md_isIt rfl rfl ?_
          refine gm_p k_Md_isIt rfl rfl ?_
          refine gm_p k_Md_isIt rfl rfl ?_
          refine gm_p k_Md_isIt rfl rfl ?_
          by_cases g16 : gi ((2 * v4) + 1) 600 = true
          · rw [if_pos g16] at hp
            refine gm_ld k_Md_isIt rfl rfl (gi_in g16) (by decide) ?_
            refine gm_p k_Md_isIt rfl rfl ?_
            cases hy17 : sp_Md_work  v3 ((y2.2.2 52) ((2 * v4) + 1).toNatClampNeg) v5 ((upd (upd (upd y2.2.1 58 (y2.2.1 42)) 59 0) 57 1), y2.2.2) with
            | none =>
              rw [hy17] at hp
              cases hp
            | some y17 =>
              rw [hy17] at hp
              dsimp only at hp
              refine gm_ivB (M' := m_Md_work) (As := [.int v3, .int ((y2.2.2 52) ((2 * v4) + 1).toNatClampNeg), .int v5]) k_Md_isIt rfl rfl rfl rfl rfl rfl (Nat.le_of_ble_eq_true rfl) (c_sp_Md_work  hy17) (fun hby17 => ?_)
              refine gm_p (L' := [some (.ref a), some (.int v1), some (.int v2), some (.int v3), some (.int v4), some (.int v5), some (.int y2.1), some (.int (y2.2.1 43)), some (.int y17.1)]) (st' := []) k_Md_isIt rfl rfl ?_
              refine gm_p k_Md_isIt rfl rfl ?_
              refine gm_p k_Md_isIt rfl rfl ?_
              refine gm_g k_Md_isIt rfl rfl rfl rfl ?_
              refine gm_pt k_Md_isIt rfl rfl rfl trivial (by decide) rfl ?_
              refine gm_p k_Md_isIt rfl rfl ?_
              refine gm_if k_Md_isIt rfl rfl rfl (fun h18 => ?_) (fun h18 => ?_)
              · skip
                refine gm_p k_Md_isIt rfl rfl ?_
                refine gm_p k_Md_isIt rfl rfl ?_
                refine gm_if k_Md_isIt rfl rfl rfl (fun h19 => ?_) (fun h19 => ?_)
                · skip
                  rw [if_pos (show y17.1 = 0 from h19)] at hp
                  refine gm_p k_Md_isIt rfl rfl ?_
                  refine gm_ic k_Md_isIt rfl rfl rfl (fun h20 => ?_) (fun h20 => ?_)
                  · skip
                    exact absurd h20 (by decide)
                  · skip
                    refine gm_p k_Md_isIt rfl rfl ?_
                    refine gm_if k_Md_isIt rfl rfl rfl (fun h21 => ?_) (fun h21 => ?_)
                    · skip
                      exact absurd h3 h21
                    · skip
                      refine gm_p k_Md_isIt rfl rfl ?_
                      refine gm_g k_Md_isIt rfl rfl rfl rfl ?_
                      refine gm_p k_Md_isIt rfl rfl ?_
                      refine gm_ic k_Md_isIt rfl rfl rfl (fun h22 => ?_) (fun h22 => ?_)
                      · skip
                        rw [if_pos (show (y17.2.1 43) = (y2.2.1 43) from h22)] at hp
                        refine gm_p k_Md_isIt rfl rfl ?_
                        cases hp
                        exact gm_ret (v := some (.int _)) k_Md_isIt rfl rfl (Or.inl rfl) rfl ⟨rfl, rfl⟩
                      · skip
                        rw [if_neg (show ¬ ((y17.2.1 43) = (y2.2.1 43)) from h22)] at hp
                        refine gm_p k_Md_isIt rfl rfl ?_
                        refine gm_j k_Md_isIt rfl rfl ?_
                        cases hp
                        exact gm_ret (v := some (.int _)) k_Md_isIt rfl rfl (Or.inr rfl) rfl ⟨rfl, rfl⟩
                · skip
                  rw [if_neg (show ¬ (y17.1 = 0) from h19)] at hp
                  refine gm_p k_Md_isIt rfl rfl ?_
                  refine gm_j k_Md_isIt rfl rfl ?_
                  refine gm_ic k_Md_isIt rfl rfl rfl (fun h23 => ?_) (fun h23 => ?_)
                  · skip
                    refine gm_p k_Md_isIt rfl rfl ?_
                    refine gm_j k_Md_isIt rfl rfl ?_
                    cases hp
                    exact gm_ret (v := some (.int _)) k_Md_isIt rfl rfl (Or.inr rfl) rfl ⟨rfl, rfl⟩
                  · skip
                    exact absurd h23 (by decide)
              · skip
                exact absurd h3 h18
          · rw [if_neg g16] at hp
            cases hp
        · skip
          rw [if_pos (show v3 = (-1) from h15)] at hp
          refine gm_p k_Md_isIt rfl rfl ?_
          refine gm_p k_Md_isIt rfl rfl ?_
          refine gm_ic k_Md_isIt rfl rfl rfl (fun h24 => ?_) (fun h24 => ?_)
          · skip
            rw [if_neg (show ¬ (v2 = (-1)) from h24)] at hp
            refine gm_p k_Md_isIt rfl rfl ?_
            refine gm_if k_Md_isIt rfl rfl rfl (fun h25 => ?_) (fun h25 => ?_)
            · skip
              exact absurd h3 h25
            · skip
              refine gm_p k_Md_isIt rfl rfl ?_
              refine gm_p k_Md_isIt rfl rfl ?_
              refine gm_p k_Md_isIt rfl rfl ?_
              refine gm_p k_Md_isIt rfl rfl ?_
              refine gm_p k_Md_isIt rfl rfl ?_
              refine gm_p k_Md_isIt rfl rfl ?_
              refine gm_ic k_Md_isIt rfl rfl rfl (fun h26 => ?_) (fun h26 => ?_)
              · skip
                rw [if_neg (show ¬ ((((y2.2.1 43) >>> (v2 &&& 31)) &&& 1) = 1) from h26)] at hp
                refine gm_p k_Md_isIt rfl rfl ?_
                cases hp
                exact gm_ret (v := some (.int _)) k_Md_isIt rfl rfl (Or.inl rfl) rfl ⟨rfl, rfl⟩
              · skip
                rw [if_pos (show (((y2.2.1 43) >>> (v2 &&& 31)) &&& 1) = 1 from h26)] at hp
                refine gm_p k_Md_isIt rfl rfl ?_
                refine gm_j k_Md_isIt rfl rfl ?_
                cases hp
                exact gm_ret (v := some (.int _)) k_Md_isIt rfl rfl (Or.inr rfl) rfl ⟨rfl, rfl⟩
          · skip
            rw [if_pos (show v2 = (-1) from h24)] at hp
            refine gm_p k_Md_isIt rfl rfl ?_
            refine gm_if k_Md_isIt rfl rfl rfl (fun h27 => ?_) (fun h27 => ?_)
            · skip
              refine gm_p k_Md_isIt rfl rfl ?_
              refine gm_j k_Md_isIt rfl rfl ?_
              cases hp
              exact gm_ret (v := some (.int _)) k_Md_isIt rfl rfl (Or.inl rfl) rfl ⟨rfl, rfl⟩
            · skip
              exact absurd h3 h27
  · rw [if_neg g1] at hp
    cases hp
def sp_Md_seek_49  (kk37 : Int32 → Int32 → Int32 → Int32 → Int32 → gm_S → Option (Int32 × gm_S)) : Nat → Int32 → Int32 → Int32 → Int32 → Int32 → Int32 → gm_S → Option (Int32 × gm_S)
  | 0, _, _, _, _, _, _, _ => none
  | m + 1, v1, v2, v3, v4, v5, v6, σ => (if gi v1 7 = true then (if (1 <<< (((σ.2 12) v1.toNatClampNeg) &&& 31)) ≤ v6 then kk37 v1 v2 v3 v4 (v5 + 1) σ else (match sp_Md_isIt  v1 v2 v3 v5 v6 σ with
  | none => none
  | some y6 => (if y6.1 = 0 then (if (y6.2.1 57) = 0 then sp_Md_seek_49  kk37 m v1 v2 v3 v4 v5 (v6 + 1) y6.2 else (match sp_Md_isSeen  (y6.2.1 58) (y6.2.1 59) y6.2 with
  | none => none
  | some y9 => (if y9.1 = 0 then (if (y9.2.1 51) = v4 then some (2, y9.2) else (match sp_Md_keep  (y9.2.1 58) (y9.2.1 59) v5 v6 y9.2 with
  | none => none
  | some y12 => sp_Md_seek_49  kk37 m v1 v2 v3 v4 v5 (v6 + 1) y12)) else sp_Md_seek_49  kk37 m v1 v2 v3 v4 v5 (v6 + 1) y9.2))) else (match sp_Md_findWay  v5 v6 y6.2 with
  | none => none
  | some y13 => some (1, y13))))) else none)
theorem c_sp_Md_seek_49  {kk37 : Int32 → Int32 → Int32 → Int32 → Int32 → gm_S → Option (Int32 × gm_S)} {r : Int32 × gm_S} (hkk37 : ∀ (v1 : Int32) (v2 : Int32) (v3 : Int32) (v4 : Int32) (v5 : Int32) (σ : gm_S), kk37 v1 v2 v3 v4 v5 σ = some r → ∀ x6 : Option Value, gm_Go l F (d + 609) m_Md_seek a A 37 ([some (.ref a), some (.int v1), some (.int v2), some (.int v3), some (.int v4), some (.int v5), x6]) [] σ (fun w σ' => w = some (.int r.1) ∧ σ' = r.2)) : ∀ (m : Nat) (v1 : Int32) (v2 : Int32) (v3 : Int32) (v4 : Int32) (v5 : Int32) (v6 : Int32) (σ : gm_S), sp_Md_seek_49  kk37 m v1 v2 v3 v4 v5 v6 σ = some r → gm_Go l F (d + 609) m_Md_seek a A 49 ([some (.ref a), some (.int v1), some (.int v2), some (.int v3), some (.int v4), some (.int v5), some (.int v6)]) [] σ (fun w σ' => w = some (.int r.1) ∧ σ' = r.2) := by
  intro m
  induction m with
  | zero => intro v1 v2 v3 v4 v5 v6 σ hp; cases hp
  | succ m ihm =>
    intro v1 v2 v3 v4 v5 v6 σ hp
    unfold sp_Md_seek_49 at hp
    refine gm_p k_Md_seek rfl rfl ?_
    refine gm_p k_Md_seek rfl rfl ?_
    refine gm_p k_Md_seek rfl rfl ?_
    refine gm_g k_Md_seek rfl rfl rfl rfl ?_
    refine gm_p k_Md_seek rfl rfl ?_
    by_cases g4 : gi v1 7 = true
    · rw [if_pos g4] at hp
      refine gm_ld k_Md_seek rfl rfl (gi_in g4) (by decide) ?_
      refine gm_p k_Md_seek rfl rfl ?_
      refine gm_ic k_Md_seek rfl rfl rfl (fun h5 => ?_) (fun h5 => ?_)
      · skip
        rw [if_pos (show (1 <<< (((σ.2 12) v1.toNatClampNeg) &&& 31)) ≤ v6 from h5)] at hp
        refine gm_p (L' := [some (.ref a), some (.int v1), some (.int v2), some (.int v3), some (.int v4), some (.int (v5 + 1)), some (.int v6)]) (st' := []) k_Md_seek rfl rfl ?_
        refine gm_j k_Md_seek rfl rfl ?_
        exact hkk37 _ _ _ _ _ _ hp _
      · skip
        rw [if_neg (show ¬ ((1 <<< (((σ.2 12) v1.toNatClampNeg) &&& 31)) ≤ v6) from h5)] at hp
        refine gm_p k_Md_seek rfl rfl ?_
        refine gm_p k_Md_seek rfl rfl ?_
        refine gm_p k_Md_seek rfl rfl ?_
        refine gm_p k_Md_seek rfl rfl ?_
        refine gm_p k_Md_seek rfl rfl ?_
        refine gm_p k_Md_seek rfl rfl ?_
        cases hy6 : sp_Md_isIt  v1 v2 v3 v5 v6 σ with
        | none =>
          rw [hy6] at hp
          cases hp
        | some y6 =>
          rw [hy6] at hp
          dsimp only at hp
          refine gm_ivB (M' := m_Md_isIt) (As := [.int v1, .int v2, .int v3, .int v5, .int v6]) k_Md_seek rfl rfl rfl rfl rfl rfl (Nat.le_of_ble_eq_true rfl) (c_sp_Md_isIt  hy6) (fun hby6 => ?_)
          refine gm_if k_Md_seek rfl rfl rfl (fun h7 => ?_) (fun h7 => ?_)
          · skip
            rw [if_pos (show y6.1 = 0 from h7)] at hp
            refine gm_p k_Md_seek rfl rfl ?_
            refine gm_g k_Md_seek rfl rfl rfl rfl ?_
            refine gm_if k_Md_seek rfl rfl rfl (fun h8 => ?_) (fun h8 => ?_)
            · skip
              rw [if_pos (show (y6.2.1 57) = 0 from h8)] at hp
              refine gm_p (L' := [some (.ref a), some (.int v1), some (.int v2), some (.int v3), some (.int v4), some (.int v5), some (.int (v6 + 1))]) (st' := []) k_Md_seek rfl rfl ?_
              refine gm_j k_Md_seek rfl rfl ?_
              exact ihm _ _ _ _ _ _ _ hp
            · skip
              rw [if_neg (show ¬ ((y6.2.1 57) = 0) from h8)] at hp
              refine gm_p k_Md_seek rfl rfl ?_
              refine gm_p k_Md_seek rfl rfl ?_
              refine gm_g k_Md_seek rfl rfl rfl rfl ?_
              refine gm_p k_Md_seek rfl rfl ?_
              refine gm_g k_Md_seek rfl rfl rfl rfl ?_
              cases hy9 : sp_Md_isSeen  (y6.2.1 58) (y6.2.1 59) y6.2 with
              | none =>
                rw [hy9] at hp
                cases hp
              | some y9 =>
                rw [hy9] at hp
                dsimp only at hp
                refine gm_ivB (M' := m_Md_isSeen) (As := [.int (y6.2.1 58), .int (y6.2.1 59)]) k_Md_seek rfl rfl rfl rfl rfl rfl (Nat.le_of_ble_eq_true rfl) (c_sp_Md_isSeen  hy9) (fun hby9 => ?_)
                refine gm_if k_Md_seek rfl rfl rfl (fun h10 => ?_) (fun h10 => ?_)
                · skip
                  rw [if_pos (show y9.1 = 0 from h10)] at hp
                  refine gm_p k_Md_seek rfl rfl ?_
                  refine gm_g k_Md_seek rfl rfl rfl rfl ?_
                  refine gm_p k_Md_seek rfl rfl ?_
                  refine gm_ic k_Md_seek rfl rfl rfl (fun h11 => ?_) (fun h11 => ?_)
                  · skip
                    rw [if_neg (show ¬ ((y9.2.1 51) = v4) from h11)] at hp
                    refine gm_p k_Md_seek rfl rfl ?_
                    refine gm_p k_Md_seek rfl rfl ?_
                    refine gm_g k_Md_seek rfl rfl rfl rfl ?_
                    refine gm_p k_Md_seek rfl rfl ?_
                    refine gm_g k_Md_seek rfl rfl rfl rfl ?_
                    refine gm_p k_Md_seek rfl rfl ?_
                    refine gm_p k_Md_seek rfl rfl ?_
                    cases hy12 : sp_Md_keep  (y9.2.1 58) (y9.2.1 59) v5 v6 y9.2 with
                    | none =>
                      rw [hy12] at hp
                      cases hp
                    | some y12 =>
                      rw [hy12] at hp
                      dsimp only at hp
                      refine gm_ivV (M' := m_Md_keep) (As := [.int (y9.2.1 58), .int (y9.2.1 59), .int v5, .int v6]) k_Md_seek rfl rfl rfl rfl rfl rfl (Nat.le_of_ble_eq_true rfl) (c_sp_Md_keep  hy12) ?_
                      refine gm_p (L' := [some (.ref a), some (.int v1), some (.int v2), some (.int v3), some (.int v4), some (.int v5), some (.int (v6 + 1))]) (st' := []) k_Md_seek rfl rfl ?_
                      refine gm_j k_Md_seek rfl rfl ?_
                      exact ihm _ _ _ _ _ _ _ hp
                  · skip
                    rw [if_pos (show (y9.2.1 51) = v4 from h11)] at hp
                    refine gm_p k_Md_seek rfl rfl ?_
                    cases hp
                    exact gm_ret (v := some (.int _)) k_Md_seek rfl rfl trivial rfl ⟨rfl, rfl⟩
                · skip
                  rw [if_neg (show ¬ (y9.1 = 0) from h10)] at hp
                  refine gm_j k_Md_seek rfl rfl ?_
                  refine gm_p (L' := [some (.ref a), some (.int v1), some (.int v2), some (.int v3), some (.int v4), some (.int v5), some (.int (v6 + 1))]) (st' := []) k_Md_seek rfl rfl ?_
                  refine gm_j k_Md_seek rfl rfl ?_
                  exact ihm _ _ _ _ _ _ _ hp
          · skip
            rw [if_neg (show ¬ (y6.1 = 0) from h7)] at hp
            refine gm_p k_Md_seek rfl rfl ?_
            refine gm_p k_Md_seek rfl rfl ?_
            refine gm_p k_Md_seek rfl rfl ?_
            cases hy13 : sp_Md_findWay  v5 v6 y6.2 with
            | none =>
              rw [hy13] at hp
              cases hp
            | some y13 =>
              rw [hy13] at hp
              dsimp only at hp
              refine gm_ivV (M' := m_Md_findWay) (As := [.int v5, .int v6]) k_Md_seek rfl rfl rfl rfl rfl rfl (Nat.le_of_ble_eq_true rfl) (c_sp_Md_findWay  hy13) ?_
              refine gm_p k_Md_seek rfl rfl ?_
              cases hp
              exact gm_ret (v := some (.int _)) k_Md_seek rfl rfl trivial rfl ⟨rfl, rfl⟩
    · rw [if_neg g4] at hp
      cases hp
def sp_Md_seek_37   : Nat → Int32 → Int32 → Int32 → Int32 → Int32 → gm_S → Option (Int32 × gm_S)
  | 0, _, _, _, _, _, _ => none
  | m + 1, v1, v2, v3, v4, v5, σ => (if (σ.1 51) ≤ v5 then some (0, σ) else sp_Md_seek_49  (sp_Md_seek_37   m) 2601 v1 v2 v3 v4 v5 0 σ)
theorem c_sp_Md_seek_37  {r : Int32 × gm_S} : ∀ (m : Nat) (v1 : Int32) (v2 : Int32) (v3 : Int32) (v4 : Int32) (v5 : Int32) (σ : gm_S), sp_Md_seek_37   m v1 v2 v3 v4 v5 σ = some r → ∀ x6 : Option Value, gm_Go l F (d + 609) m_Md_seek a A 37 ([some (.ref a), some (.int v1), some (.int v2), some (.int v3), some (.int v4), some (.int v5), x6]) [] σ (fun w σ' => w = some (.int r.1) ∧ σ' = r.2) := by
  intro m
  induction m with
  | zero => intro v1 v2 v3 v4 v5 σ hp; cases hp
  | succ m ihm =>
    intro v1 v2 v3 v4 v5 σ hp x6
    unfold sp_Md_seek_37 at hp
    refine gm_p k_Md_seek rfl rfl ?_
    refine gm_p k_Md_seek rfl rfl ?_
    refine gm_g k_Md_seek rfl rfl rfl rfl ?_
    refine gm_ic k_Md_seek rfl rfl rfl (fun h3 => ?_) (fun h3 => ?_)
    · skip
      rw [if_pos (show (σ.1 51) ≤ v5 from h3)] at hp
      refine gm_p k_Md_seek rfl rfl ?_
      cases hp
      exact gm_ret (v := some (.int _)) k_Md_seek rfl rfl trivial rfl ⟨rfl, rfl⟩
    · skip
      rw [if_neg (show ¬ ((σ.1 51) ≤ v5) from h3)] at hp
      refine gm_p k_Md_seek rfl rfl ?_
      refine gm_p (L' := [some (.ref a), some (.int v1), some (.int v2), some (.int v3), some (.int v4), some (.int v5), some (.int 0)]) (st' := []) k_Md_seek rfl rfl ?_
      exact c_sp_Md_seek_49  (fun _ _ _ _ _ _ h => ihm _ _ _ _ _ _ h) _ _ _ _ _ _ _ _ hp
def sp_Md_seek  (v1 : Int32) (v2 : Int32) (v3 : Int32) (v4 : Int32) (σ : gm_S) : Option (Int32 × gm_S) := (if v3 = (-1) then (match sp_Md_keep  (-2) 0 (-1) 0 ((upd (upd (upd σ.1 50 1) 51 0) 55 0), σ.2) with
  | none => none
  | some y14 => sp_Md_seek_37   2601 v1 v2 v3 v4 0 y14) else (match sp_Md_keep  (-2) (-2) (-1) 0 ((upd (upd (upd σ.1 50 1) 51 0) 55 0), σ.2) with
  | none => none
  | some y2 => sp_Md_seek_37   2601 v1 v2 v3 v4 0 y2))
theorem c_sp_Md_seek  {v1 : Int32} {v2 : Int32} {v3 : Int32} {v4 : Int32} {σ : gm_S} {r : Int32 × gm_S} (hp : sp_Md_seek  v1 v2 v3 v4 σ = some r) : gm_Has l F (d + 609) m_Md_seek a A [.int v1, .int v2, .int v3, .int v4] σ (fun w σ' => w = some (.int r.1) ∧ σ' = r.2) := by
  refine gm_meth (k := 2) (L := [some (.ref a), some (.int v1), some (.int v2), some (.int v3), some (.int v4), none, none]) pn_Md rfl (Nat.le_of_ble_eq_true rfl) ?_
  unfold sp_Md_seek at hp
  refine gm_p k_Md_seek rfl rfl ?_
  refine gm_p k_Md_seek rfl rfl ?_
  refine gm_pt k_Md_seek rfl rfl rfl (Or.inr rfl) (by decide) rfl ?_
  refine gm_p k_Md_seek rfl rfl ?_
  refine gm_p k_Md_seek rfl rfl ?_
  refine gm_pt k_Md_seek rfl rfl rfl trivial (by decide) rfl ?_
  refine gm_p k_Md_seek rfl rfl ?_
  refine gm_p k_Md_seek rfl rfl ?_
  refine gm_pt k_Md_seek rfl rfl rfl trivial (by decide) rfl ?_
  refine gm_p k_Md_seek rfl rfl ?_
  refine gm_p k_Md_seek rfl rfl ?_
  refine gm_p k_Md_seek rfl rfl ?_
  refine gm_p k_Md_seek rfl rfl ?_
  refine gm_ic k_Md_seek rfl rfl rfl (fun h1 => ?_) (fun h1 => ?_)
  · skip
    rw [if_neg (show ¬ (v3 = (-1)) from h1)] at hp
    refine gm_p k_Md_seek rfl rfl ?_
    refine gm_p k_Md_seek rfl rfl ?_
    refine gm_p k_Md_seek rfl rfl ?_
    cases hy2 : sp_Md_keep  (-2) (-2) (-1) 0 ((upd (upd (upd σ.1 50 1) 51 0) 55 0), σ.2) with
    | none =>
      rw [hy2] at hp
      cases hp
    | some y2 =>
      rw [hy2] at hp
      dsimp only at hp
      refine gm_ivV (M' := m_Md_keep) (As := [.int (-2), .int (-2), .int (-1), .int 0]) k_Md_seek rfl rfl rfl rfl rfl rfl (Nat.le_of_ble_eq_true rfl) (c_sp_Md_keep  hy2) ?_
      refine gm_p k_Md_seek rfl rfl ?_
      refine gm_p (L' := [some (.ref a), some (.int v1), some (.int v2), some (.int v3), some (.int v4), some (.int 0), none]) (st' := []) k_Md_seek rfl rfl ?_
      exact c_sp_Md_seek_37   _ _ _ _ _ _ _ hp _
  · skip
    rw [if_pos (show v3 = (-1) from h1)] at hp
    refine gm_p k_Md_seek rfl rfl ?_
    refine gm_j k_Md_seek rfl rfl ?_
    refine gm_p k_Md_seek rfl rfl ?_
    refine gm_p k_Md_seek rfl rfl ?_
    cases hy14 : sp_Md_keep  (-2) 0 (-1) 0 ((upd (upd (upd σ.1 50 1) 51 0) 55 0), σ.2) with
    | none =>
      rw [hy14] at hp
      cases hp
    | some y14 =>
      rw [hy14] at hp
      dsimp only at hp
      refine gm_ivV (M' := m_Md_keep) (As := [.int (-2), .int 0, .int (-1), .int 0]) k_Md_seek rfl rfl rfl rfl rfl rfl (Nat.le_of_ble_eq_true rfl) (c_sp_Md_keep  hy14) ?_
      refine gm_p k_Md_seek rfl rfl ?_
      refine gm_p (L' := [some (.ref a), some (.int v1), some (.int v2), some (.int v3), some (.int v4), some (.int 0), none]) (st' := []) k_Md_seek rfl rfl ?_
      exact c_sp_Md_seek_37   _ _ _ _ _ _ _ hp _
def sp_Md_search  (v1 : Int32) (v2 : Int32) (v3 : Int32) (σ : gm_S) : Option (Int32 × gm_S) := (match sp_Md_isProgram  v1 ((upd σ.1 0 0), σ.2) with
  | none => none
  | some y1 => (if y1.1 = 0 then some ((-1), y1.2) else (if gi v1 7 = true then (if (4 : Int32) < ((y1.2.2 12) v1.toNatClampNeg) then some ((-1), y1.2) else (if (q_in v2 (-1) (((y1.2.2 14) v1.toNatClampNeg) - 1)) = 0 then some ((-1), y1.2) else (if (q_in v3 1 300) = 0 then some ((-1), y1.2) else (match sp_Md_seek  v1 v2 (-1) v3 y1.2 with
  | none => none
  | some y7 => some (y7.1, y7.2))))) else none)))
theorem c_sp_Md_search  {v1 : Int32} {v2 : Int32} {v3 : Int32} {σ : gm_S} {r : Int32 × gm_S} (hp : sp_Md_search  v1 v2 v3 σ = some r) : gm_Has l F (d + 610) m_Md_search a A [.int v1, .int v2, .int v3] σ (fun w σ' => w = some (.int r.1) ∧ σ' = r.2) := by
  refine gm_meth (k := 0) (L := [some (.ref a), some (.int v1), some (.int v2), some (.int v3)]) pn_Md rfl (Nat.le_of_ble_eq_true rfl) ?_
  unfold sp_Md_search at hp
  refine gm_p k_Md_search rfl rfl ?_
  refine gm_p k_Md_search rfl rfl ?_
  refine gm_pt k_Md_search rfl rfl rfl trivial (by decide) rfl ?_
  refine gm_p k_Md_search rfl rfl ?_
  refine gm_p k_Md_search rfl rfl ?_
  cases hy1 : sp_Md_isProgram  v1 ((upd σ.1 0 0), σ.2) with
  | none =>
    rw [hy1] at hp
    cases hp
  | some y1 =>
    rw [hy1] at hp
    dsimp only at hp
    refine gm_ivB (M' := m_Md_isProgram) (As := [.int v1]) k_Md_search rfl rfl rfl rfl rfl rfl (Nat.le_of_ble_eq_true rfl) (c_sp_Md_isProgram  hy1) (fun hby1 => ?_)
    refine gm_if k_Md_search rfl rfl rfl (fun h2 => ?_) (fun h2 => ?_)
    · skip
      rw [if_pos (show y1.1 = 0 from h2)] at hp
      refine gm_p k_Md_search rfl rfl ?_
      cases hp
      exact gm_ret (v := some (.int _)) k_Md_search rfl rfl trivial rfl ⟨rfl, rfl⟩
    · skip
      rw [if_neg (show ¬ (y1.1 = 0) from h2)] at hp
      refine gm_p k_Md_search rfl rfl ?_
      refine gm_g k_Md_search rfl rfl rfl rfl ?_
      refine gm_p k_Md_search rfl rfl ?_
      by_cases g3 : gi v1 7 = true
      · rw [if_pos g3] at hp
        refine gm_ld k_Md_search rfl rfl (gi_in g3) (by decide) ?_
        refine gm_p k_Md_search rfl rfl ?_
        refine gm_ic k_Md_search rfl rfl rfl (fun h4 => ?_) (fun h4 => ?_)
        · skip
          rw [if_pos (show (4 : Int32) < ((y1.2.2 12) v1.toNatClampNeg) from h4)] at hp
          refine gm_p k_Md_search rfl rfl ?_
          cases hp
          exact gm_ret (v := some (.int _)) k_Md_search rfl rfl trivial rfl ⟨rfl, rfl⟩
        · skip
          rw [if_neg (show ¬ ((4 : Int32) < ((y1.2.2 12) v1.toNatClampNeg)) from h4)] at hp
          refine gm_p k_Md_search rfl rfl ?_
          refine gm_p k_Md_search rfl rfl ?_
          refine gm_p k_Md_search rfl rfl ?_
          refine gm_g k_Md_search rfl rfl rfl rfl ?_
          refine gm_p k_Md_search rfl rfl ?_
          refine gm_ld k_Md_search rfl rfl (gi_in g3) (by decide) ?_
          refine gm_p k_Md_search rfl rfl ?_
          refine gm_p k_Md_search rfl rfl ?_
          refine gm_is (M' := m_Md_in) (As := [.int v2, .int (-1), .int (((y1.2.2 14) v1.toNatClampNeg) - 1)]) k_Md_search rfl rfl rfl rfl rfl rfl (Nat.le_of_ble_eq_true rfl) (fun h => c_Md_inQ v2 (-1) (((y1.2.2 14) v1.toNatClampNeg) - 1) h) ?_
          refine gm_if k_Md_search rfl rfl rfl (fun h5 => ?_) (fun h5 => ?_)
          · skip
            rw [if_pos (show (q_in v2 (-1) (((y1.2.2 14) v1.toNatClampNeg) - 1)) = 0 from h5)] at hp
            refine gm_p k_Md_search rfl rfl ?_
            cases hp
            exact gm_ret (v := some (.int _)) k_Md_search rfl rfl trivial rfl ⟨rfl, rfl⟩
          · skip
            rw [if_neg (show ¬ ((q_in v2 (-1) (((y1.2.2 14) v1.toNatClampNeg) - 1)) = 0) from h5)] at hp
            refine gm_p k_Md_search rfl rfl ?_
            refine gm_p k_Md_search rfl rfl ?_
            refine gm_p k_Md_search rfl rfl ?_
            refine gm_is (M' := m_Md_in) (As := [.int v3, .int 1, .int 300]) k_Md_search rfl rfl rfl rfl rfl rfl (Nat.le_of_ble_eq_true rfl) (fun h => c_Md_inQ v3 1 300 h) ?_
            refine gm_if k_Md_search rfl rfl rfl (fun h6 => ?_) (fun h6 => ?_)
            · skip
              rw [if_neg (show ¬ ((q_in v3 1 300) = 0) from h6)] at hp
              refine gm_p k_Md_search rfl rfl ?_
              refine gm_p k_Md_search rfl rfl ?_
              refine gm_p k_Md_search rfl rfl ?_
              refine gm_p k_Md_search rfl rfl ?_
              refine gm_p k_Md_search rfl rfl ?_
              cases hy7 : sp_Md_seek  v1 v2 (-1) v3 y1.2 with
              | none =>
                rw [hy7] at hp
                cases hp
              | some y7 =>
                rw [hy7] at hp
                dsimp only at hp
                refine gm_ivB (M' := m_Md_seek) (As := [.int v1, .int v2, .int (-1), .int v3]) k_Md_search rfl rfl rfl rfl rfl rfl (Nat.le_of_ble_eq_true rfl) (c_sp_Md_seek  hy7) (fun hby7 => ?_)
                cases hp
                exact gm_ret (v := some (.int _)) k_Md_search rfl rfl trivial rfl ⟨rfl, rfl⟩
            · skip
              rw [if_pos (show (q_in v3 1 300) = 0 from h6)] at hp
              refine gm_p k_Md_search rfl rfl ?_
              cases hp
              exact gm_ret (v := some (.int _)) k_Md_search rfl rfl trivial rfl ⟨rfl, rfl⟩
      · rw [if_neg g3] at hp
        cases hp
def sp_Md_differ  (v1 : Int32) (v2 : Int32) (v3 : Int32) (σ : gm_S) : Option (Int32 × gm_S) := (match sp_Md_isProgram  v1 ((upd σ.1 0 0), σ.2) with
  | none => none
  | some y1 => (if y1.1 = 0 then some ((-1), y1.2) else (match sp_Md_isProgram  v2 y1.2 with
  | none => none
  | some y3 => (if y3.1 = 0 then some ((-1), y3.2) else (if gi v1 7 = true then (if (4 : Int32) < ((y3.2.2 12) v1.toNatClampNeg) then some ((-1), y3.2) else (if gi v2 7 = true then (if ((y3.2.2 12) v1.toNatClampNeg) = ((y3.2.2 12) v2.toNatClampNeg) then (if ((y3.2.2 14) v1.toNatClampNeg) = ((y3.2.2 14) v2.toNatClampNeg) then (if (q_in v3 1 300) = 0 then some ((-1), y3.2) else (match sp_Md_seek  v1 (-1) v2 v3 y3.2 with
  | none => none
  | some y11 => some (y11.1, y11.2))) else some ((-1), y3.2)) else some ((-1), y3.2)) else none)) else none)))))
theorem c_sp_Md_differ  {v1 : Int32} {v2 : Int32} {v3 : Int32} {σ : gm_S} {r : Int32 × gm_S} (hp : sp_Md_differ  v1 v2 v3 σ = some r) : gm_Has l F (d + 610) m_Md_differ a A [.int v1, .int v2, .int v3] σ (fun w σ' => w = some (.int r.1) ∧ σ' = r.2) := by
  refine gm_meth (k := 0) (L := [some (.ref a), some (.int v1), some (.int v2), some (.int v3)]) pn_Md rfl (Nat.le_of_ble_eq_true rfl) ?_
  unfold sp_Md_differ at hp
  refine gm_p k_Md_differ rfl rfl ?_
  refine gm_p k_Md_differ rfl rfl ?_
  refine gm_pt k_Md_differ rfl rfl rfl trivial (by decide) rfl ?_
  refine gm_p k_Md_differ rfl rfl ?_
  refine gm_p k_Md_differ rfl rfl ?_
  cases hy1 : sp_Md_isProgram  v1 ((upd σ.1 0 0), σ.2) with
  | none =>
    rw [hy1] at hp
    cases hp
  | some y1 =>
    rw [hy1] at hp
    dsimp only at hp
    refine gm_ivB (M' := m_Md_isProgram) (As := [.int v1]) k_Md_differ rfl rfl rfl rfl rfl rfl (Nat.le_of_ble_eq_true rfl) (c_sp_Md_isProgram  hy1) (fun hby1 => ?_)
    refine gm_if k_Md_differ rfl rfl rfl (fun h2 => ?_) (fun h2 => ?_)
    · skip
      rw [if_pos (show y1.1 = 0 from h2)] at hp
      refine gm_p k_Md_differ rfl rfl ?_
      cases hp
      exact gm_ret (v := some (.int _)) k_Md_differ rfl rfl trivial rfl ⟨rfl, rfl⟩
    · skip
      rw [if_neg (show ¬ (y1.1 = 0) from h2)] at hp
      refine gm_p k_Md_differ rfl rfl ?_
      refine gm_p k_Md_differ rfl rfl ?_
      cases hy3 : sp_Md_isProgram  v2 y1.2 with
      | none =>
        rw [hy3] at hp
        cases hp
      | some y3 =>
        rw [hy3] at hp
        dsimp only at hp
        refine gm_ivB (M' := m_Md_isProgram) (As := [.int v2]) k_Md_differ rfl rfl rfl rfl rfl rfl (Nat.le_of_ble_eq_true rfl) (c_sp_Md_isProgram  hy3) (fun hby3 => ?_)
        refine gm_if k_Md_differ rfl rfl rfl (fun h4 => ?_) (fun h4 => ?_)
        · skip
          rw [if_pos (show y3.1 = 0 from h4)] at hp
          refine gm_p k_Md_differ rfl rfl ?_
          cases hp
          exact gm_ret (v := some (.int _)) k_Md_differ rfl rfl trivial rfl ⟨rfl, rfl⟩
        · skip
          rw [if_neg (show ¬ (y3.1 = 0) from h4)] at hp
          refine gm_p k_Md_differ rfl rfl ?_
          refine gm_g k_Md_differ rfl rfl rfl rfl ?_
          refine gm_p k_Md_differ rfl rfl ?_
          by_cases g5 : gi v1 7 = true
          · rw [if_pos g5] at hp
            refine gm_ld k_Md_differ rfl rfl (gi_in g5) (by decide) ?_
            refine gm_p k_Md_differ rfl rfl ?_
            refine gm_ic k_Md_differ rfl rfl rfl (fun h6 => ?_) (fun h6 => ?_)
            · skip
              rw [if_pos (show (4 : Int32) < ((y3.2.2 12) v1.toNatClampNeg) from h6)] at hp
              refine gm_p k_Md_differ rfl rfl ?_
              cases hp
              exact gm_ret (v := some (.int _)) k_Md_differ rfl rfl trivial rfl ⟨rfl, rfl⟩
            · skip
              rw [if_neg (show ¬ ((4 : Int32) < ((y3.2.2 12) v1.toNatClampNeg)) from h6)] at hp
              refine gm_p k_Md_differ rfl rfl ?_
              refine gm_g k_Md_differ rfl rfl rfl rfl ?_
              refine gm_p k_Md_differ rfl rfl ?_
              refine gm_ld k_Md_differ rfl rfl (gi_in g5) (by decide) ?_
              refine gm_p k_Md_differ rfl rfl ?_
              refine gm_g k_Md_differ rfl rfl rfl rfl ?_
              refine gm_p k_Md_differ rfl rfl ?_
              by_cases g7 : gi v2 7 = true
              · rw [if_pos g7] at hp
                refine gm_ld k_Md_differ rfl rfl (gi_in g7) (by decide) ?_
                refine gm_ic k_Md_differ rfl rfl rfl (fun h8 => ?_) (fun h8 => ?_)
                · skip
                  rw [if_neg (show ¬ (((y3.2.2 12) v1.toNatClampNeg) = ((y3.2.2 12) v2.toNatClampNeg)) from h8)] at hp
                  refine gm_p k_Md_differ rfl rfl ?_
                  cases hp
                  exact gm_ret (v := some (.int _)) k_Md_differ rfl rfl trivial rfl ⟨rfl, rfl⟩
                · skip
                  rw [if_pos (show ((y3.2.2 12) v1.toNatClampNeg) = ((y3.2.2 12) v2.toNatClampNeg) from h8)] at hp
                  refine gm_p k_Md_differ rfl rfl ?_
                  refine gm_g k_Md_differ rfl rfl rfl rfl ?_
                  refine gm_p k_Md_differ rfl rfl ?_
                  refine gm_ld k_Md_differ rfl rfl (gi_in g5) (by decide) ?_
                  refine gm_p k_Md_differ rfl rfl ?_
                  refine gm_g k_Md_differ rfl rfl rfl rfl ?_
                  refine gm_p k_Md_differ rfl rfl ?_
                  refine gm_ld k_Md_differ rfl rfl (gi_in g7) (by decide) ?_
                  refine gm_ic k_Md_differ rfl rfl rfl (fun h9 => ?_) (fun h9 => ?_)
                  · skip
                    rw [if_neg (show ¬ (((y3.2.2 14) v1.toNatClampNeg) = ((y3.2.2 14) v2.toNatClampNeg)) from h9)] at hp
                    refine gm_p k_Md_differ rfl rfl ?_
                    cases hp
                    exact gm_ret (v := some (.int _)) k_Md_differ rfl rfl trivial rfl ⟨rfl, rfl⟩
                  · skip
                    rw [if_pos (show ((y3.2.2 14) v1.toNatClampNeg) = ((y3.2.2 14) v2.toNatClampNeg) from h9)] at hp
                    refine gm_p k_Md_differ rfl rfl ?_
                    refine gm_p k_Md_differ rfl rfl ?_
                    refine gm_p k_Md_differ rfl rfl ?_
                    refine gm_is (M' := m_Md_in) (As := [.int v3, .int 1, .int 300]) k_Md_differ rfl rfl rfl rfl rfl rfl (Nat.le_of_ble_eq_true rfl) (fun h => c_Md_inQ v3 1 300 h) ?_
                    refine gm_if k_Md_differ rfl rfl rfl (fun h10 => ?_) (fun h10 => ?_)
                    · skip
                      rw [if_neg (show ¬ ((q_in v3 1 300) = 0) from h10)] at hp
                      refine gm_p k_Md_differ rfl rfl ?_
                      refine gm_p k_Md_differ rfl rfl ?_
                      refine gm_p k_Md_differ rfl rfl ?_
                      refine gm_p k_Md_differ rfl rfl ?_
                      refine gm_p k_Md_differ rfl rfl ?_
                      cases hy11 : sp_Md_seek  v1 (-1) v2 v3 y3.2 with
                      | none =>
                        rw [hy11] at hp
                        cases hp
                      | some y11 =>
                        rw [hy11] at hp
                        dsimp only at hp
                        refine gm_ivB (M' := m_Md_seek) (As := [.int v1, .int (-1), .int v2, .int v3]) k_Md_differ rfl rfl rfl rfl rfl rfl (Nat.le_of_ble_eq_true rfl) (c_sp_Md_seek  hy11) (fun hby11 => ?_)
                        cases hp
                        exact gm_ret (v := some (.int _)) k_Md_differ rfl rfl trivial rfl ⟨rfl, rfl⟩
                    · skip
                      rw [if_pos (show (q_in v3 1 300) = 0 from h10)] at hp
                      refine gm_p k_Md_differ rfl rfl ?_
                      cases hp
                      exact gm_ret (v := some (.int _)) k_Md_differ rfl rfl trivial rfl ⟨rfl, rfl⟩
              · rw [if_neg g7] at hp
                cases hp
          · rw [if_neg g5] at hp
            cases hp
end WD
