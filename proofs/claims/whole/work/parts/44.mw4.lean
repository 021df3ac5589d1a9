section MD5
variable {l : Launch} {F : gx_F} {d D : Nat} {a : Nat} {A : Nat → Nat} {σ : gm_S} {T : mw_A} {S : Int32} {f : mw_F}
theorem c_Md_must (ih : mw_IH l F a A D T S f) {dd : Nat} {p res : Int32} {v : Int64} (hD : D + 3 ≤ dd) (h9 : 6 ≤ dd) (hT : ∀ k, 20 ≤ k → k ≤ 25 → σ.2 k = T k) (hS : σ.1 39 = S) (g1 : gi p 2600 = true) (hp : mw_must T S f p res (σ.2 38) = some v) : gm_Has l F dd m_Md_must a A [.int p, .int res] σ (fun w σ' => w = some (.long v) ∧ σ' = σ) := by
  obtain ⟨d, rfl⟩ : ∃ d, dd = d + 6 := ⟨dd - 6, by omega⟩
  refine gm_meth (k := 3) (L := [some (.ref a), some (.int p), some (.int res), none, none, none]) pn_Md rfl (Nat.le_of_ble_eq_true rfl) ?_
  unfold mw_must at hp
  rw [mw_ch_c hT, ← hT 20 (by decide) (by decide), ← hT 21 (by decide) (by decide), ← hT 22 (by decide) (by decide), ← hT 23 (by decide) (by decide)] at hp
  by_cases h0 : σ.2 20 p.toNatClampNeg = 0
  · rw [if_pos h0] at hp
    cases hp
    refine gm_p k_Md_must rfl rfl ?_
    refine gm_g k_Md_must rfl rfl rfl rfl ?_
    refine gm_p k_Md_must rfl rfl ?_
    refine gm_ld k_Md_must rfl rfl (gi_in (by assumption)) (by decide) ?_
    refine gm_p k_Md_must rfl rfl ?_
    refine gm_p k_Md_must rfl rfl ?_
    refine gm_g k_Md_must rfl rfl rfl rfl ?_
    refine gm_p k_Md_must rfl rfl ?_
    refine gm_ld k_Md_must rfl rfl (gi_in (by assumption)) (by decide) ?_
    rw [show ((σ.2 20 p.toNatClampNeg : Int32)) = 0 from h0]
    refine gm_tI (tgt := 68) k_Md_must rfl rfl (by decide) (by decide) rfl rfl ?_
    refine gm_p k_Md_must rfl rfl ?_
    exact gm_ret (v := some (.long _)) k_Md_must rfl rfl trivial rfl ⟨rfl, rfl⟩
  · rw [if_neg h0] at hp
    by_cases h1 : σ.2 20 p.toNatClampNeg = 1
    · rw [if_pos h1] at hp
      by_cases r0 : res = 0
      · rw [if_pos r0] at hp
        cases hp
        refine gm_p k_Md_must rfl rfl ?_
        refine gm_g k_Md_must rfl rfl rfl rfl ?_
        refine gm_p k_Md_must rfl rfl ?_
        refine gm_ld k_Md_must rfl rfl (gi_in (by assumption)) (by decide) ?_
        refine gm_p k_Md_must rfl rfl ?_
        refine gm_p k_Md_must rfl rfl ?_
        refine gm_g k_Md_must rfl rfl rfl rfl ?_
        refine gm_p k_Md_must rfl rfl ?_
        refine gm_ld k_Md_must rfl rfl (gi_in (by assumption)) (by decide) ?_
        rw [show ((σ.2 20 p.toNatClampNeg : Int32)) = 1 from h1]
        refine gm_tI (tgt := 70) k_Md_must rfl rfl (by decide) (by decide) rfl rfl ?_
        refine gm_p k_Md_must rfl rfl ?_
        refine gm_if k_Md_must rfl rfl rfl (fun hc71 => ?_) (fun hc71 => ?_)
        · (try dsimp only at hc71)
          refine gm_l2w k_Md_must rfl rfl ?_
          exact gm_ret (v := some (.long _)) k_Md_must rfl rfl trivial rfl ⟨rfl, rfl⟩
        · (try dsimp only at hc71)
          (exfalso; simp_all; done)
      · rw [if_neg r0] at hp
        cases hp
        refine gm_p k_Md_must rfl rfl ?_
        refine gm_g k_Md_must rfl rfl rfl rfl ?_
        refine gm_p k_Md_must rfl rfl ?_
        refine gm_ld k_Md_must rfl rfl (gi_in (by assumption)) (by decide) ?_
        refine gm_p k_Md_must rfl rfl ?_
        refine gm_p k_Md_must rfl rfl ?_
        refine gm_g k_Md_must rfl rfl rfl rfl ?_
        refine gm_p k_Md_must rfl rfl ?_
        refine gm_ld k_Md_must rfl rfl (gi_in (by assumption)) (by decide) ?_
        rw [show ((σ.2 20 p.toNatClampNeg : Int32)) = 1 from h1]
        refine gm_tI (tgt := 70) k_Md_must rfl rfl (by decide) (by decide) rfl rfl ?_
        refine gm_p k_Md_must rfl rfl ?_
        refine gm_if k_Md_must rfl rfl rfl (fun hc71 => ?_) (fun hc71 => ?_)
        · (try dsimp only at hc71)
          (exfalso; simp_all; done)
        · (try dsimp only at hc71)
          refine gm_p k_Md_must rfl rfl ?_
          refine gm_j k_Md_must rfl rfl ?_
          exact gm_ret (v := some (.long _)) k_Md_must rfl rfl trivial rfl ⟨rfl, rfl⟩
    · rw [if_neg h1] at hp
      by_cases h2 : σ.2 20 p.toNatClampNeg = 2
      · rw [if_pos h2] at hp
        cases hp
        refine gm_p k_Md_must rfl rfl ?_
        refine gm_g k_Md_must rfl rfl rfl rfl ?_
        refine gm_p k_Md_must rfl rfl ?_
        refine gm_ld k_Md_must rfl rfl (gi_in (by assumption)) (by decide) ?_
        refine gm_p k_Md_must rfl rfl ?_
        refine gm_p k_Md_must rfl rfl ?_
        refine gm_g k_Md_must rfl rfl rfl rfl ?_
        refine gm_p k_Md_must rfl rfl ?_
        refine gm_ld k_Md_must rfl rfl (gi_in (by assumption)) (by decide) ?_
        rw [show ((σ.2 20 p.toNatClampNeg : Int32)) = 2 from h2]
        refine gm_tI (tgt := 82) k_Md_must rfl rfl (by decide) (by decide) rfl rfl ?_
        refine gm_p k_Md_must rfl rfl ?_
        refine gm_p k_Md_must rfl rfl ?_
        refine gm_p k_Md_must rfl rfl ?_
        refine gm_g k_Md_must rfl rfl rfl rfl ?_
        refine gm_p k_Md_must rfl rfl ?_
        refine gm_ld k_Md_must rfl rfl (gi_in (by assumption)) (by decide) ?_
        refine gm_p k_Md_must rfl rfl ?_
        refine gm_p k_Md_must rfl rfl ?_
        refine gm_p k_Md_must rfl rfl ?_
        refine gm_p k_Md_must rfl rfl ?_
        exact gm_ret (v := some (.long _)) k_Md_must rfl rfl trivial rfl ⟨rfl, rfl⟩
      · rw [if_neg h2] at hp
        by_cases h3 : σ.2 20 p.toNatClampNeg = 3
        · rw [if_pos h3] at hp
          by_cases r0 : res = 0
          · rw [if_pos r0] at hp
            by_cases g2 : gi (σ.2 21 p.toNatClampNeg) 26 = true
            · rw [if_pos g2] at hp
              by_cases e0 : σ.2 38 (σ.2 21 p.toNatClampNeg).toNatClampNeg = 0
              · rw [if_pos e0] at hp
                cases hp
                refine gm_p k_Md_must rfl rfl ?_
                refine gm_g k_Md_must rfl rfl rfl rfl ?_
                refine gm_p k_Md_must rfl rfl ?_
                refine gm_ld k_Md_must rfl rfl (gi_in (by assumption)) (by decide) ?_
                refine gm_p k_Md_must rfl rfl ?_
                refine gm_p k_Md_must rfl rfl ?_
                refine gm_g k_Md_must rfl rfl rfl rfl ?_
                refine gm_p k_Md_must rfl rfl ?_
                refine gm_ld k_Md_must rfl rfl (gi_in (by assumption)) (by decide) ?_
                rw [show ((σ.2 20 p.toNatClampNeg : Int32)) = 3 from h3]
                refine gm_tI (tgt := 105) k_Md_must rfl rfl (by decide) (by decide) rfl rfl ?_
                refine gm_p k_Md_must rfl rfl ?_
                refine gm_if k_Md_must rfl rfl rfl (fun hc106 => ?_) (fun hc106 => ?_)
                · (try dsimp only at hc106)
                  refine gm_p k_Md_must rfl rfl ?_
                  refine gm_g k_Md_must rfl rfl rfl rfl ?_
                  refine gm_p k_Md_must rfl rfl ?_
                  refine gm_g k_Md_must rfl rfl rfl rfl ?_
                  refine gm_p k_Md_must rfl rfl ?_
                  refine gm_ld k_Md_must rfl rfl (gi_in (by assumption)) (by decide) ?_
                  refine gm_ld k_Md_must rfl rfl (gi_in (by assumption)) (by decide) ?_
                  refine gm_if k_Md_must rfl rfl rfl (fun hc132 => ?_) (fun hc132 => ?_)
                  · (try dsimp only at hc132)
                    (exfalso; simp_all; done)
                  · (try dsimp only at hc132)
                    refine gm_p k_Md_must rfl rfl ?_
                    refine gm_j k_Md_must rfl rfl ?_
                    exact gm_ret (v := some (.long _)) k_Md_must rfl rfl trivial rfl ⟨rfl, rfl⟩
                · (try dsimp only at hc106)
                  (exfalso; simp_all; done)
              · rw [if_neg e0] at hp
                cases hq : mw_ch σ.2 S p (σ.2 38 (σ.2 21 p.toNatClampNeg).toNatClampNeg) with
                | none =>
                  rw [hq] at hp
                  cases hp
                | some q =>
                  rw [hq] at hp
                  try dsimp only at hp
                  rw [← hS] at hq
                  refine gm_p k_Md_must rfl rfl ?_
                  refine gm_g k_Md_must rfl rfl rfl rfl ?_
                  refine gm_p k_Md_must rfl rfl ?_
                  refine gm_ld k_Md_must rfl rfl (gi_in (by assumption)) (by decide) ?_
                  refine gm_p k_Md_must rfl rfl ?_
                  refine gm_p k_Md_must rfl rfl ?_
                  refine gm_g k_Md_must rfl rfl rfl rfl ?_
                  refine gm_p k_Md_must rfl rfl ?_
                  refine gm_ld k_Md_must rfl rfl (gi_in (by assumption)) (by decide) ?_
                  rw [show ((σ.2 20 p.toNatClampNeg : Int32)) = 3 from h3]
                  refine gm_tI (tgt := 105) k_Md_must rfl rfl (by decide) (by decide) rfl rfl ?_
                  refine gm_p k_Md_must rfl rfl ?_
                  refine gm_if k_Md_must rfl rfl rfl (fun hc106 => ?_) (fun hc106 => ?_)
                  · (try dsimp only at hc106)
                    refine gm_p k_Md_must rfl rfl ?_
                    refine gm_g k_Md_must rfl rfl rfl rfl ?_
                    refine gm_p k_Md_must rfl rfl ?_
                    refine gm_g k_Md_must rfl rfl rfl rfl ?_
                    refine gm_p k_Md_must rfl rfl ?_
                    refine gm_ld k_Md_must rfl rfl (gi_in (by assumption)) (by decide) ?_
                    refine gm_ld k_Md_must rfl rfl (gi_in (by assumption)) (by decide) ?_
                    refine gm_if k_Md_must rfl rfl rfl (fun hc132 => ?_) (fun hc132 => ?_)
                    · (try dsimp only at hc132)
                      refine gm_p k_Md_must rfl rfl ?_
                      refine gm_p k_Md_must rfl rfl ?_
                      refine gm_p k_Md_must rfl rfl ?_
                      refine gm_p k_Md_must rfl rfl ?_
                      refine gm_g k_Md_must rfl rfl rfl rfl ?_
                      refine gm_p k_Md_must rfl rfl ?_
                      refine gm_g k_Md_must rfl rfl rfl rfl ?_
                      refine gm_p k_Md_must rfl rfl ?_
                      refine gm_ld k_Md_must rfl rfl (gi_in (by assumption)) (by decide) ?_
                      refine gm_ld k_Md_must rfl rfl (gi_in (by assumption)) (by decide) ?_
                      refine gm_ivE (M' := m_Md_chosen) (As := [.int p, .int _]) k_Md_must rfl rfl rfl rfl rfl rfl (Nat.le_of_ble_eq_true rfl) (c_Md_chosen hq) ?_
                      refine gm_p k_Md_must rfl rfl ?_
                      refine gm_ivE (M' := m_Md_must) (As := [.int q, .int 0]) k_Md_must rfl rfl rfl rfl rfl rfl (Nat.le_of_ble_eq_true rfl) (ih.1 _ _ _ _ _ (by omega) hT hS hp) ?_
                      exact gm_ret (v := some (.long _)) k_Md_must rfl rfl trivial rfl ⟨rfl, rfl⟩
                    · (try dsimp only at hc132)
                      (exfalso; simp_all; done)
                  · (try dsimp only at hc106)
                    (exfalso; simp_all; done)
            · rw [if_neg g2] at hp
              cases hp
          · rw [if_neg r0] at hp
            cases hq : mw_ch σ.2 S p 0 with
            | none =>
              rw [hq] at hp
              cases hp
            | some q =>
              rw [hq] at hp
              try dsimp only at hp
              rw [← hS] at hq
              refine gm_p k_Md_must rfl rfl ?_
              refine gm_g k_Md_must rfl rfl rfl rfl ?_
              refine gm_p k_Md_must rfl rfl ?_
              refine gm_ld k_Md_must rfl rfl (gi_in (by assumption)) (by decide) ?_
              refine gm_p k_Md_must rfl rfl ?_
              refine gm_p k_Md_must rfl rfl ?_
              refine gm_g k_Md_must rfl rfl rfl rfl ?_
              refine gm_p k_Md_must rfl rfl ?_
              refine gm_ld k_Md_must rfl rfl (gi_in (by assumption)) (by decide) ?_
              rw [show ((σ.2 20 p.toNatClampNeg : Int32)) = 3 from h3]
              refine gm_tI (tgt := 105) k_Md_must rfl rfl (by decide) (by decide) rfl rfl ?_
              refine gm_p k_Md_must rfl rfl ?_
              refine gm_if k_Md_must rfl rfl rfl (fun hc106 => ?_) (fun hc106 => ?_)
              · (try dsimp only at hc106)
                (exfalso; simp_all; done)
              · (try dsimp only at hc106)
                refine gm_p k_Md_must rfl rfl ?_
                refine gm_p k_Md_must rfl rfl ?_
                refine gm_p k_Md_must rfl rfl ?_
                refine gm_p k_Md_must rfl rfl ?_
                refine gm_ivE (M' := m_Md_chosen) (As := [.int p, .int 0]) k_Md_must rfl rfl rfl rfl rfl rfl (Nat.le_of_ble_eq_true rfl) (c_Md_chosen hq) ?_
                refine gm_p k_Md_must rfl rfl ?_
                refine gm_ivE (M' := m_Md_must) (As := [.int q, .int 1]) k_Md_must rfl rfl rfl rfl rfl rfl (Nat.le_of_ble_eq_true rfl) (ih.1 _ _ _ _ _ (by omega) hT hS hp) ?_
                exact gm_ret (v := some (.long _)) k_Md_must rfl rfl trivial rfl ⟨rfl, rfl⟩
        · rw [if_neg h3] at hp
          by_cases h4 : σ.2 20 p.toNatClampNeg = 4
          · rw [if_pos h4] at hp
            refine gm_p k_Md_must rfl rfl ?_
            refine gm_g k_Md_must rfl rfl rfl rfl ?_
            refine gm_p k_Md_must rfl rfl ?_
            refine gm_ld k_Md_must rfl rfl (gi_in (by assumption)) (by decide) ?_
            refine gm_p k_Md_must rfl rfl ?_
            refine gm_p k_Md_must rfl rfl ?_
            refine gm_g k_Md_must rfl rfl rfl rfl ?_
            refine gm_p k_Md_must rfl rfl ?_
            refine gm_ld k_Md_must rfl rfl (gi_in (by assumption)) (by decide) ?_
            rw [show ((σ.2 20 p.toNatClampNeg : Int32)) = 4 from h4]
            refine gm_tI (tgt := 161) k_Md_must rfl rfl (by decide) (by decide) rfl rfl ?_
            refine gm_p k_Md_must rfl rfl ?_
            refine gm_p k_Md_must rfl rfl ?_
            refine gm_p k_Md_must rfl rfl ?_
            refine gm_ivE (M' := m_Md_mustLoop) (As := [.int (σ.2 23 p.toNatClampNeg), .int res]) k_Md_must rfl rfl rfl rfl rfl rfl (Nat.le_of_ble_eq_true rfl) (c_Md_mustLoop ih (by omega) (by omega) hT hS hp) ?_
            exact gm_ret (v := some (.long _)) k_Md_must rfl rfl trivial rfl ⟨rfl, rfl⟩
          · rw [if_neg h4] at hp
            by_cases h5 : σ.2 20 p.toNatClampNeg = 5
            · rw [if_pos h5] at hp
              by_cases r0 : res = 0
              · rw [if_pos r0] at hp
                refine gm_p k_Md_must rfl rfl ?_
                refine gm_g k_Md_must rfl rfl rfl rfl ?_
                refine gm_p k_Md_must rfl rfl ?_
                refine gm_ld k_Md_must rfl rfl (gi_in (by assumption)) (by decide) ?_
                refine gm_p k_Md_must rfl rfl ?_
                refine gm_p k_Md_must rfl rfl ?_
                refine gm_g k_Md_must rfl rfl rfl rfl ?_
                refine gm_p k_Md_must rfl rfl ?_
                refine gm_ld k_Md_must rfl rfl (gi_in (by assumption)) (by decide) ?_
                rw [show ((σ.2 20 p.toNatClampNeg : Int32)) = 5 from h5]
                refine gm_tI (tgt := 168) k_Md_must rfl rfl (by decide) (by decide) rfl rfl ?_
                refine gm_p k_Md_must rfl rfl ?_
                refine gm_if k_Md_must rfl rfl rfl (fun hc169 => ?_) (fun hc169 => ?_)
                · (try dsimp only at hc169)
                  refine gm_p k_Md_must rfl rfl ?_
                  refine gm_p k_Md_must rfl rfl ?_
                  refine gm_p k_Md_must rfl rfl ?_
                  refine gm_ivE (M' := m_Md_must) (As := [.int (σ.2 23 p.toNatClampNeg), .int res]) k_Md_must rfl rfl rfl rfl rfl rfl (Nat.le_of_ble_eq_true rfl) (ih.1 _ _ _ _ _ (by omega) hT hS hp) ?_
                  exact gm_ret (v := some (.long _)) k_Md_must rfl rfl trivial rfl ⟨rfl, rfl⟩
                · (try dsimp only at hc169)
                  (exfalso; simp_all; done)
              · rw [if_neg r0] at hp
                by_cases g2 : gi (σ.2 21 p.toNatClampNeg) 26 = true
                · rw [if_pos g2] at hp
                  by_cases e2 : σ.2 38 (σ.2 21 p.toNatClampNeg).toNatClampNeg = 2
                  · rw [if_pos e2] at hp
                    refine gm_p k_Md_must rfl rfl ?_
                    refine gm_g k_Md_must rfl rfl rfl rfl ?_
                    refine gm_p k_Md_must rfl rfl ?_
                    refine gm_ld k_Md_must rfl rfl (gi_in (by assumption)) (by decide) ?_
                    refine gm_p k_Md_must rfl rfl ?_
                    refine gm_p k_Md_must rfl rfl ?_
                    refine gm_g k_Md_must rfl rfl rfl rfl ?_
                    refine gm_p k_Md_must rfl rfl ?_
                    refine gm_ld k_Md_must rfl rfl (gi_in (by assumption)) (by decide) ?_
                    rw [show ((σ.2 20 p.toNatClampNeg : Int32)) = 5 from h5]
                    refine gm_tI (tgt := 168) k_Md_must rfl rfl (by decide) (by decide) rfl rfl ?_
                    refine gm_p k_Md_must rfl rfl ?_
                    refine gm_if k_Md_must rfl rfl rfl (fun hc169 => ?_) (fun hc169 => ?_)
                    · (try dsimp only at hc169)
                      (exfalso; simp_all; done)
                    · (try dsimp only at hc169)
                      refine gm_p k_Md_must rfl rfl ?_
                      refine gm_g k_Md_must rfl rfl rfl rfl ?_
                      refine gm_p k_Md_must rfl rfl ?_
                      refine gm_g k_Md_must rfl rfl rfl rfl ?_
                      refine gm_p k_Md_must rfl rfl ?_
                      refine gm_ld k_Md_must rfl rfl (gi_in (by assumption)) (by decide) ?_
                      refine gm_ld k_Md_must rfl rfl (gi_in (by assumption)) (by decide) ?_
                      refine gm_p k_Md_must rfl rfl ?_
                      refine gm_ic k_Md_must rfl rfl rfl (fun hc184 => ?_) (fun hc184 => ?_)
                      · (try dsimp only at hc184)
                        (exfalso; simp_all; done)
                      · (try dsimp only at hc184)
                        refine gm_p k_Md_must rfl rfl ?_
                        refine gm_p k_Md_must rfl rfl ?_
                        refine gm_p k_Md_must rfl rfl ?_
                        refine gm_ivE (M' := m_Md_must) (As := [.int (σ.2 23 p.toNatClampNeg), .int res]) k_Md_must rfl rfl rfl rfl rfl rfl (Nat.le_of_ble_eq_true rfl) (ih.1 _ _ _ _ _ (by omega) hT hS hp) ?_
                        exact gm_ret (v := some (.long _)) k_Md_must rfl rfl trivial rfl ⟨rfl, rfl⟩
                  · rw [if_neg e2] at hp
                    by_cases e1 : σ.2 38 (σ.2 21 p.toNatClampNeg).toNatClampNeg = 1
                    · rw [if_pos e1] at hp
                      cases hp
                      refine gm_p k_Md_must rfl rfl ?_
                      refine gm_g k_Md_must rfl rfl rfl rfl ?_
                      refine gm_p k_Md_must rfl rfl ?_
                      refine gm_ld k_Md_must rfl rfl (gi_in (by assumption)) (by decide) ?_
                      refine gm_p k_Md_must rfl rfl ?_
                      refine gm_p k_Md_must rfl rfl ?_
                      refine gm_g k_Md_must rfl rfl rfl rfl ?_
                      refine gm_p k_Md_must rfl rfl ?_
                      refine gm_ld k_Md_must rfl rfl (gi_in (by assumption)) (by decide) ?_
                      rw [show ((σ.2 20 p.toNatClampNeg : Int32)) = 5 from h5]
                      refine gm_tI (tgt := 168) k_Md_must rfl rfl (by decide) (by decide) rfl rfl ?_
                      refine gm_p k_Md_must rfl rfl ?_
                      refine gm_if k_Md_must rfl rfl rfl (fun hc169 => ?_) (fun hc169 => ?_)
                      · (try dsimp only at hc169)
                        (exfalso; simp_all; done)
                      · (try dsimp only at hc169)
                        refine gm_p k_Md_must rfl rfl ?_
                        refine gm_g k_Md_must rfl rfl rfl rfl ?_
                        refine gm_p k_Md_must rfl rfl ?_
                        refine gm_g k_Md_must rfl rfl rfl rfl ?_
                        refine gm_p k_Md_must rfl rfl ?_
                        refine gm_ld k_Md_must rfl rfl (gi_in (by assumption)) (by decide) ?_
                        refine gm_ld k_Md_must rfl rfl (gi_in (by assumption)) (by decide) ?_
                        refine gm_p k_Md_must rfl rfl ?_
                        refine gm_ic k_Md_must rfl rfl rfl (fun hc184 => ?_) (fun hc184 => ?_)
                        · (try dsimp only at hc184)
                          refine gm_p k_Md_must rfl rfl ?_
                          refine gm_g k_Md_must rfl rfl rfl rfl ?_
                          refine gm_p k_Md_must rfl rfl ?_
                          refine gm_g k_Md_must rfl rfl rfl rfl ?_
                          refine gm_p k_Md_must rfl rfl ?_
                          refine gm_ld k_Md_must rfl rfl (gi_in (by assumption)) (by decide) ?_
                          refine gm_ld k_Md_must rfl rfl (gi_in (by assumption)) (by decide) ?_
                          refine gm_p k_Md_must rfl rfl ?_
                          refine gm_ic k_Md_must rfl rfl rfl (fun hc206 => ?_) (fun hc206 => ?_)
                          · (try dsimp only at hc206)
                            (exfalso; simp_all; done)
                          · (try dsimp only at hc206)
                            refine gm_l2w k_Md_must rfl rfl ?_
                            refine gm_j k_Md_must rfl rfl ?_
                            exact gm_ret (v := some (.long _)) k_Md_must rfl rfl trivial rfl ⟨rfl, rfl⟩
                        · (try dsimp only at hc184)
                          (exfalso; simp_all; done)
                    · rw [if_neg e1] at hp
                      cases hp
                      refine gm_p k_Md_must rfl rfl ?_
                      refine gm_g k_Md_must rfl rfl rfl rfl ?_
                      refine gm_p k_Md_must rfl rfl ?_
                      refine gm_ld k_Md_must rfl rfl (gi_in (by assumption)) (by decide) ?_
                      refine gm_p k_Md_must rfl rfl ?_
                      refine gm_p k_Md_must rfl rfl ?_
                      refine gm_g k_Md_must rfl rfl rfl rfl ?_
                      refine gm_p k_Md_must rfl rfl ?_
                      refine gm_ld k_Md_must rfl rfl (gi_in (by assumption)) (by decide) ?_
                      rw [show ((σ.2 20 p.toNatClampNeg : Int32)) = 5 from h5]
                      refine gm_tI (tgt := 168) k_Md_must rfl rfl (by decide) (by decide) rfl rfl ?_
                      refine gm_p k_Md_must rfl rfl ?_
                      refine gm_if k_Md_must rfl rfl rfl (fun hc169 => ?_) (fun hc169 => ?_)
                      · (try dsimp only at hc169)
                        (exfalso; simp_all; done)
                      · (try dsimp only at hc169)
                        refine gm_p k_Md_must rfl rfl ?_
                        refine gm_g k_Md_must rfl rfl rfl rfl ?_
                        refine gm_p k_Md_must rfl rfl ?_
                        refine gm_g k_Md_must rfl rfl rfl rfl ?_
                        refine gm_p k_Md_must rfl rfl ?_
                        refine gm_ld k_Md_must rfl rfl (gi_in (by assumption)) (by decide) ?_
                        refine gm_ld k_Md_must rfl rfl (gi_in (by assumption)) (by decide) ?_
                        refine gm_p k_Md_must rfl rfl ?_
                        refine gm_ic k_Md_must rfl rfl rfl (fun hc184 => ?_) (fun hc184 => ?_)
                        · (try dsimp only at hc184)
                          refine gm_p k_Md_must rfl rfl ?_
                          refine gm_g k_Md_must rfl rfl rfl rfl ?_
                          refine gm_p k_Md_must rfl rfl ?_
                          refine gm_g k_Md_must rfl rfl rfl rfl ?_
                          refine gm_p k_Md_must rfl rfl ?_
                          refine gm_ld k_Md_must rfl rfl (gi_in (by assumption)) (by decide) ?_
                          refine gm_ld k_Md_must rfl rfl (gi_in (by assumption)) (by decide) ?_
                          refine gm_p k_Md_must rfl rfl ?_
                          refine gm_ic k_Md_must rfl rfl rfl (fun hc206 => ?_) (fun hc206 => ?_)
                          · (try dsimp only at hc206)
                            refine gm_p k_Md_must rfl rfl ?_
                            exact gm_ret (v := some (.long _)) k_Md_must rfl rfl trivial rfl ⟨rfl, rfl⟩
                          · (try dsimp only at hc206)
                            (exfalso; simp_all; done)
                        · (try dsimp only at hc184)
                          (exfalso; simp_all; done)
                · rw [if_neg g2] at hp
                  cases hp
            · rw [if_neg h5] at hp
              by_cases h6 : σ.2 20 p.toNatClampNeg = 6
              · rw [if_pos h6] at hp
                cases hx : f false (σ.2 23 p.toNatClampNeg) res 0 (σ.2 38) with
                | none =>
                  rw [hx] at hp
                  cases hp
                | some x =>
                  rw [hx] at hp
                  try dsimp only at hp
                  cases hp
                  refine gm_p k_Md_must rfl rfl ?_
                  refine gm_g k_Md_must rfl rfl rfl rfl ?_
                  refine gm_p k_Md_must rfl rfl ?_
                  refine gm_ld k_Md_must rfl rfl (gi_in (by assumption)) (by decide) ?_
                  refine gm_p k_Md_must rfl rfl ?_
                  refine gm_p k_Md_must rfl rfl ?_
                  refine gm_g k_Md_must rfl rfl rfl rfl ?_
                  refine gm_p k_Md_must rfl rfl ?_
                  refine gm_ld k_Md_must rfl rfl (gi_in (by assumption)) (by decide) ?_
                  rw [show ((σ.2 20 p.toNatClampNeg : Int32)) = 6 from h6]
                  refine gm_tI (tgt := 217) k_Md_must rfl rfl (by decide) (by decide) rfl rfl ?_
                  refine gm_p k_Md_must rfl rfl ?_
                  refine gm_p k_Md_must rfl rfl ?_
                  refine gm_p k_Md_must rfl rfl ?_
                  refine gm_ivE (M' := m_Md_must) (As := [.int (σ.2 23 p.toNatClampNeg), .int res]) k_Md_must rfl rfl rfl rfl rfl rfl (Nat.le_of_ble_eq_true rfl) (ih.1 _ _ _ _ _ (by omega) hT hS hx) ?_
                  refine gm_p k_Md_must rfl rfl ?_
                  refine gm_p k_Md_must rfl rfl ?_
                  refine gm_p k_Md_must rfl rfl ?_
                  refine gm_is (M' := m_Md_codesOf) (As := [.long _]) k_Md_must rfl rfl rfl rfl rfl rfl (Nat.le_of_ble_eq_true rfl) (fun h => c_Md_codesOf _ h) ?_
                  refine gm_is (M' := m_Md_lowered) (As := [.int _]) k_Md_must rfl rfl rfl rfl rfl rfl (Nat.le_of_ble_eq_true rfl) (fun h => c_Md_loweredQ _ h) ?_
                  refine gm_is (M' := m_Md_join) (As := [.long _, .int _]) k_Md_must rfl rfl rfl rfl rfl rfl (Nat.le_of_ble_eq_true rfl) (fun h => c_Md_join _ _ h) ?_
                  exact gm_ret (v := some (.long _)) k_Md_must rfl rfl trivial rfl ⟨rfl, rfl⟩
              · rw [if_neg h6] at hp
                by_cases h7 : σ.2 20 p.toNatClampNeg = 7
                · rw [if_pos h7] at hp
                  cases hp
                  refine gm_p k_Md_must rfl rfl ?_
                  refine gm_g k_Md_must rfl rfl rfl rfl ?_
                  refine gm_p k_Md_must rfl rfl ?_
                  refine gm_ld k_Md_must rfl rfl (gi_in (by assumption)) (by decide) ?_
                  refine gm_p k_Md_must rfl rfl ?_
                  refine gm_p k_Md_must rfl rfl ?_
                  refine gm_g k_Md_must rfl rfl rfl rfl ?_
                  refine gm_p k_Md_must rfl rfl ?_
                  refine gm_ld k_Md_must rfl rfl (gi_in (by assumption)) (by decide) ?_
                  rw [show ((σ.2 20 p.toNatClampNeg : Int32)) = 7 from h7]
                  refine gm_tI (tgt := 96) k_Md_must rfl rfl (by decide) (by decide) rfl rfl ?_
                  refine gm_p k_Md_must rfl rfl ?_
                  refine gm_p k_Md_must rfl rfl ?_
                  refine gm_g k_Md_must rfl rfl rfl rfl ?_
                  refine gm_p k_Md_must rfl rfl ?_
                  refine gm_ld k_Md_must rfl rfl (gi_in (by assumption)) (by decide) ?_
                  refine gm_p k_Md_must rfl rfl ?_
                  exact gm_ret (v := some (.long _)) k_Md_must rfl rfl trivial rfl ⟨rfl, rfl⟩
                · rw [if_neg h7] at hp
                  by_cases h8 : σ.2 20 p.toNatClampNeg = 8
                  · rw [if_pos h8] at hp
                    refine gm_p k_Md_must rfl rfl ?_
                    refine gm_g k_Md_must rfl rfl rfl rfl ?_
                    refine gm_p k_Md_must rfl rfl ?_
                    refine gm_ld k_Md_must rfl rfl (gi_in (by assumption)) (by decide) ?_
                    refine gm_p k_Md_must rfl rfl ?_
                    refine gm_p k_Md_must rfl rfl ?_
                    refine gm_g k_Md_must rfl rfl rfl rfl ?_
                    refine gm_p k_Md_must rfl rfl ?_
                    refine gm_ld k_Md_must rfl rfl (gi_in (by assumption)) (by decide) ?_
                    rw [show ((σ.2 20 p.toNatClampNeg : Int32)) = 8 from h8]
                    refine gm_tI (tgt := 239) k_Md_must rfl rfl (by decide) (by decide) rfl rfl ?_
                    refine gm_p k_Md_must rfl rfl ?_
                    refine gm_p k_Md_must rfl rfl ?_
                    refine gm_p k_Md_must rfl rfl ?_
                    refine gm_ivE (M' := m_Md_mustLocal) (As := [.int p, .int res]) k_Md_must rfl rfl rfl rfl rfl rfl (Nat.le_of_ble_eq_true rfl) (c_Md_mustLocal ih (by omega) (by omega) hT hS hp) ?_
                    exact gm_ret (v := some (.long _)) k_Md_must rfl rfl trivial rfl ⟨rfl, rfl⟩
                  · rw [if_neg h8] at hp
                    by_cases h9 : σ.2 20 p.toNatClampNeg = 9
                    · rw [if_pos h9] at hp
                      refine gm_p k_Md_must rfl rfl ?_
                      refine gm_g k_Md_must rfl rfl rfl rfl ?_
                      refine gm_p k_Md_must rfl rfl ?_
                      refine gm_ld k_Md_must rfl rfl (gi_in (by assumption)) (by decide) ?_
                      refine gm_p k_Md_must rfl rfl ?_
                      refine gm_p k_Md_must rfl rfl ?_
                      refine gm_g k_Md_must rfl rfl rfl rfl ?_
                      refine gm_p k_Md_must rfl rfl ?_
                      refine gm_ld k_Md_must rfl rfl (gi_in (by assumption)) (by decide) ?_
                      rw [show ((σ.2 20 p.toNatClampNeg : Int32)) = 9 from h9]
                      refine gm_tI (tgt := 246) k_Md_must rfl rfl (by decide) (by decide) rfl rfl ?_
                      refine gm_p k_Md_must rfl rfl ?_
                      refine gm_p k_Md_must rfl rfl ?_
                      refine gm_p k_Md_must rfl rfl ?_
                      refine gm_ivE (M' := m_Md_mustSequence) (As := [.int p, .int res]) k_Md_must rfl rfl rfl rfl rfl rfl (Nat.le_of_ble_eq_true rfl) (c_Md_mustSequence ih (by omega) (by omega) hT hS hp) ?_
                      exact gm_ret (v := some (.long _)) k_Md_must rfl rfl trivial rfl ⟨rfl, rfl⟩
                    · rw [if_neg h9] at hp
                      refine gm_p k_Md_must rfl rfl ?_
                      refine gm_g k_Md_must rfl rfl rfl rfl ?_
                      refine gm_p k_Md_must rfl rfl ?_
                      refine gm_ld k_Md_must rfl rfl (gi_in (by assumption)) (by decide) ?_
                      refine gm_p k_Md_must rfl rfl ?_
                      refine gm_p k_Md_must rfl rfl ?_
                      refine gm_g k_Md_must rfl rfl rfl rfl ?_
                      refine gm_p k_Md_must rfl rfl ?_
                      refine gm_ld k_Md_must rfl rfl (gi_in (by assumption)) (by decide) ?_
                      refine gm_tO (tgt := 253) k_Md_must rfl rfl (sw_out h0 h1 h2 h3 h4 h5 h6 h7 h8 h9) rfl ?_
                      refine gm_p k_Md_must rfl rfl ?_
                      refine gm_p k_Md_must rfl rfl ?_
                      refine gm_p k_Md_must rfl rfl ?_
                      refine gm_ivE (M' := m_Md_mustParallel) (As := [.int p, .int res]) k_Md_must rfl rfl rfl rfl rfl rfl (Nat.le_of_ble_eq_true rfl) (c_Md_mustParallel ih (by omega) (by omega) hT hS hp) ?_
                      exact gm_ret (v := some (.long _)) k_Md_must rfl rfl trivial rfl ⟨rfl, rfl⟩
end MD5
