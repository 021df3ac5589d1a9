theorem mw_lk_g {T : mw_A} {f : mw_F} {p res : Int32} {K K1 : Nat → Int32} (h : mw_lk T f p res K = some K1) : gi p 2600 = true ∧ gi (T 21 p.toNatClampNeg) 26 = true ∧ ∃ w, K1 = upd K (T 21 p.toNatClampNeg).toNatClampNeg w := by
  unfold mw_lk at h
  by_cases g1 : gi p 2600 = true
  · rw [if_pos g1] at h
    by_cases g2 : gi (T 21 p.toNatClampNeg) 26 = true
    · rw [if_pos g2] at h
      refine ⟨g1, g2, ?_⟩
      (repeat' split at h) <;> cases h <;> exact ⟨_, rfl⟩
    · rw [if_neg g2] at h; cases h
  · rw [if_neg g1] at h; cases h
def mw_must (T : mw_A) (S : Int32) (f : mw_F) (p res : Int32) (K : Nat → Int32) : Option Int64 :=
  if T 20 p.toNatClampNeg = 0 then some 1
  else if T 20 p.toNatClampNeg = 1 then (if res = 0 then some 2 else some 1)
  else if T 20 p.toNatClampNeg = 2 then some (1 <<< ((32 + T 21 p.toNatClampNeg).toInt64 &&& 63) ||| 1)
  else if T 20 p.toNatClampNeg = 3 then (if res = 0 then (if gi (T 21 p.toNatClampNeg) 26 = true then (if K (T 21 p.toNatClampNeg).toNatClampNeg = 0 then some 0 else (match mw_ch T S p (K (T 21 p.toNatClampNeg).toNatClampNeg) with
      | none => none
      | some q => f false q 0 0 K)) else none) else (match mw_ch T S p 0 with
      | none => none
      | some q => f false q 1 0 K))
  else if T 20 p.toNatClampNeg = 4 then mw_ml f (T 23 p.toNatClampNeg) res K
  else if T 20 p.toNatClampNeg = 5 then (if res = 0 then f false (T 23 p.toNatClampNeg) res 0 K else if gi (T 21 p.toNatClampNeg) 26 = true then (if K (T 21 p.toNatClampNeg).toNatClampNeg = 2 then f false (T 23 p.toNatClampNeg) res 0 K else if K (T 21 p.toNatClampNeg).toNatClampNeg = 1 then some 2 else some 0) else none)
  else if T 20 p.toNatClampNeg = 6 then (match f false (T 23 p.toNatClampNeg) res 0 K with
      | none => none
      | some x => some (q_join x (q_low x.toInt32)))
  else if T 20 p.toNatClampNeg = 7 then some (1 <<< ((T 22 p.toNatClampNeg).toInt64 &&& 63))
  else if T 20 p.toNatClampNeg = 8 then mw_mc T f p res K
  else if T 20 p.toNatClampNeg = 9 then mw_ms T S f p res K
  else mw_mp T S f p res K
theorem sw_out {x : Int32} (h0 : ¬ x = 0) (h1 : ¬ x = 1) (h2 : ¬ x = 2) (h3 : ¬ x = 3) (h4 : ¬ x = 4) (h5 : ¬ x = 5) (h6 : ¬ x = 6) (h7 : ¬ x = 7) (h8 : ¬ x = 8) (h9 : ¬ x = 9) : x.toInt < 0 ∨ 9 < x.toInt := by
  simp only [← Int32.toInt_inj] at h0 h1 h2 h3 h4 h5 h6 h7 h8 h9
  have e0 : (0 : Int32).toInt = 0 := rfl
  have e1 : (1 : Int32).toInt = 1 := rfl
  have e2 : (2 : Int32).toInt = 2 := rfl
  have e3 : (3 : Int32).toInt = 3 := rfl
  have e4 : (4 : Int32).toInt = 4 := rfl
  have e5 : (5 : Int32).toInt = 5 := rfl
  have e6 : (6 : Int32).toInt = 6 := rfl
  have e7 : (7 : Int32).toInt = 7 := rfl
  have e8 : (8 : Int32).toInt = 8 := rfl
  have e9 : (9 : Int32).toInt = 9 := rfl
  omega
section MD4
variable {l : Launch} {F : gx_F} {d D : Nat} {a : Nat} {A : Nat → Nat} {σ : gm_S} {T : mw_A} {S : Int32} {f : mw_F}
theorem c_Md_mustLocal (ih : mw_IH l F a A D T S f) {dd : Nat} {p res : Int32} {v : Int64} (hD : D + 2 ≤ dd) (h3 : 5 ≤ dd) (hT : ∀ k, 20 ≤ k → k ≤ 25 → σ.2 k = T k) (hS : σ.1 39 = S) (hp : mw_mc T f p res (σ.2 38) = some v) : gm_Has l F dd m_Md_mustLocal a A [.int p, .int res] σ (fun w σ' => w = some (.long v) ∧ σ' = σ) := by
  obtain ⟨d, rfl⟩ : ∃ d, dd = d + 5 := ⟨dd - 5, by omega⟩
  refine gm_meth (k := 4) (L := [some (.ref a), some (.int p), some (.int res), none, none, none, none]) pn_Md rfl (Nat.le_of_ble_eq_true rfl) ?_
  unfold mw_mc at hp
  cases hk : mw_lk T f p res (σ.2 38) with
  | none =>
    rw [hk] at hp
    cases hp
  | some K1 =>
    rw [hk] at hp
    try dsimp only at hp
    cases hx : f false (T 23 p.toNatClampNeg) res 0 K1 with
    | none =>
      rw [hx] at hp
      cases hp
    | some x =>
      rw [hx] at hp
      try dsimp only at hp
      obtain ⟨g1, g2, w, hw⟩ := mw_lk_g hk
      have hlk := c_Md_look ih (dd := d + 4) (by omega) (by omega) hT hS hk
      rw [← hT 21 (by decide) (by decide)] at g2 hw hp
      rw [← hT 23 (by decide) (by decide)] at hx
      subst hw
      cases hp
      refine gm_p k_Md_mustLocal rfl rfl ?_
      refine gm_g k_Md_mustLocal rfl rfl rfl rfl ?_
      refine gm_p k_Md_mustLocal rfl rfl ?_
      refine gm_ld k_Md_mustLocal rfl rfl (gi_in (by assumption)) (by decide) ?_
      refine gm_p k_Md_mustLocal rfl rfl ?_
      refine gm_p k_Md_mustLocal rfl rfl ?_
      refine gm_g k_Md_mustLocal rfl rfl rfl rfl ?_
      refine gm_p k_Md_mustLocal rfl rfl ?_
      refine gm_ld k_Md_mustLocal rfl rfl (gi_in (by assumption)) (by decide) ?_
      refine gm_p k_Md_mustLocal rfl rfl ?_
      refine gm_p k_Md_mustLocal rfl rfl ?_
      refine gm_p k_Md_mustLocal rfl rfl ?_
      refine gm_p k_Md_mustLocal rfl rfl ?_
      refine gm_ivV (M' := m_Md_look) (As := [.int p, .int res]) k_Md_mustLocal rfl rfl rfl rfl rfl rfl (Nat.le_of_ble_eq_true rfl) hlk ?_
      refine gm_p k_Md_mustLocal rfl rfl ?_
      refine gm_p k_Md_mustLocal rfl rfl ?_
      refine gm_g k_Md_mustLocal rfl rfl rfl rfl ?_
      refine gm_p k_Md_mustLocal rfl rfl ?_
      refine gm_ld k_Md_mustLocal rfl rfl (gi_in (by assumption)) (by decide) ?_
      refine gm_p k_Md_mustLocal rfl rfl ?_
      refine gm_ivE (M' := m_Md_must) (As := [.int (σ.2 23 p.toNatClampNeg), .int res]) k_Md_mustLocal rfl rfl rfl rfl rfl rfl (Nat.le_of_ble_eq_true rfl) (ih.1 _ _ _ _ _ (by omega) (mw_hT hT) hS hx) ?_
      refine gm_p k_Md_mustLocal rfl rfl ?_
      refine gm_is (M' := m_Md_without) (As := [.long _, .int _]) k_Md_mustLocal rfl rfl rfl rfl rfl rfl (Nat.le_of_ble_eq_true rfl) (fun h => c_Md_withoutQ _ _ h) ?_
      refine gm_p k_Md_mustLocal rfl rfl ?_
      refine gm_p k_Md_mustLocal rfl rfl ?_
      refine gm_g k_Md_mustLocal rfl rfl rfl rfl ?_
      refine gm_p k_Md_mustLocal rfl rfl ?_
      refine gm_p k_Md_mustLocal rfl rfl ?_
      refine gm_sto k_Md_mustLocal rfl rfl (gi_in (by assumption)) (by decide) ?_
      simp only [gm_up_same, gm_up_up, upd_upd, upd_self, gm_up_id]
      refine gm_p k_Md_mustLocal rfl rfl ?_
      exact gm_ret (v := some (.long _)) k_Md_mustLocal rfl rfl trivial rfl ⟨rfl, rfl⟩
theorem c_Md_mustSequence (ih : mw_IH l F a A D T S f) {dd : Nat} {p res : Int32} {v : Int64} (hD : D + 1 ≤ dd) (h3 : 4 ≤ dd) (hT : ∀ k, 20 ≤ k → k ≤ 25 → σ.2 k = T k) (hS : σ.1 39 = S) (hp : mw_ms T S f p res (σ.2 38) = some v) : gm_Has l F dd m_Md_mustSequence a A [.int p, .int res] σ (fun w σ' => w = some (.long v) ∧ σ' = σ) := by
  obtain ⟨d, rfl⟩ : ∃ d, dd = d + 4 := ⟨dd - 4, by omega⟩
  have loop : ∀ (n : Nat) (k : Int32) (al : Int64), mw_sq (fun q => f false q 0 0 (σ.2 38)) σ.2 n k al = some v → gm_Go l F (d + 4) m_Md_mustSequence a A 22 [some (.ref a), some (.int p), some (.int res), some (.int k), some (.long al), none] [] σ (fun w σ' => w = some (.long v) ∧ σ' = σ) := by
    intro n
    induction n with
    | zero => intro k al hk; cases hk
    | succ n ihn =>
      intro k al hk
      unfold mw_sq at hk
      try dsimp only at hk
      by_cases h1 : k = -1
      · rw [if_pos h1] at hk
        cases hk
        refine gm_p k_Md_mustSequence rfl rfl ?_
        refine gm_p k_Md_mustSequence rfl rfl ?_
        refine gm_ic k_Md_mustSequence rfl rfl rfl (fun hc24 => ?_) (fun hc24 => ?_)
        · (try dsimp only at hc24)
          refine gm_p k_Md_mustSequence rfl rfl ?_
          exact gm_ret (v := some (.long _)) k_Md_mustSequence rfl rfl trivial rfl ⟨rfl, rfl⟩
        · (try dsimp only at hc24)
          (exfalso; simp_all; done)
      · rw [if_neg h1] at hk
        by_cases h2 : q_hasC al 0 = 0
        · rw [if_pos h2] at hk
          cases hk
          refine gm_p k_Md_mustSequence rfl rfl ?_
          refine gm_p k_Md_mustSequence rfl rfl ?_
          refine gm_ic k_Md_mustSequence rfl rfl rfl (fun hc24 => ?_) (fun hc24 => ?_)
          · (try dsimp only at hc24)
            (exfalso; simp_all; done)
          · (try dsimp only at hc24)
            refine gm_p k_Md_mustSequence rfl rfl ?_
            refine gm_p k_Md_mustSequence rfl rfl ?_
            refine gm_is (M' := m_Md_hasCode) (As := [.long _, .int 0]) k_Md_mustSequence rfl rfl rfl rfl rfl rfl (Nat.le_of_ble_eq_true rfl) (fun h => c_Md_hasCode _ _ h) ?_
            refine gm_if k_Md_mustSequence rfl rfl rfl (fun hc33 => ?_) (fun hc33 => ?_)
            · (try dsimp only at hc33)
              refine gm_p k_Md_mustSequence rfl rfl ?_
              exact gm_ret (v := some (.long _)) k_Md_mustSequence rfl rfl trivial rfl ⟨rfl, rfl⟩
            · (try dsimp only at hc33)
              (exfalso; simp_all; done)
        · rw [if_neg h2] at hk
          cases hm : f false k 0 0 (σ.2 38) with
          | none =>
            rw [hm] at hk
            cases hk
          | some m =>
            rw [hm] at hk
            try dsimp only at hk
            by_cases g1 : gi k 2600 = true
            · rw [if_pos g1] at hk
              refine gm_p k_Md_mustSequence rfl rfl ?_
              refine gm_p k_Md_mustSequence rfl rfl ?_
              refine gm_ic k_Md_mustSequence rfl rfl rfl (fun hc24 => ?_) (fun hc24 => ?_)
              · (try dsimp only at hc24)
                (exfalso; simp_all; done)
              · (try dsimp only at hc24)
                refine gm_p k_Md_mustSequence rfl rfl ?_
                refine gm_p k_Md_mustSequence rfl rfl ?_
                refine gm_is (M' := m_Md_hasCode) (As := [.long _, .int 0]) k_Md_mustSequence rfl rfl rfl rfl rfl rfl (Nat.le_of_ble_eq_true rfl) (fun h => c_Md_hasCode _ _ h) ?_
                refine gm_if k_Md_mustSequence rfl rfl rfl (fun hc33 => ?_) (fun hc33 => ?_)
                · (try dsimp only at hc33)
                  (exfalso; simp_all; done)
                · (try dsimp only at hc33)
                  refine gm_p k_Md_mustSequence rfl rfl ?_
                  refine gm_p k_Md_mustSequence rfl rfl ?_
                  refine gm_p k_Md_mustSequence rfl rfl ?_
                  refine gm_p k_Md_mustSequence rfl rfl ?_
                  refine gm_ivE (M' := m_Md_must) (As := [.int k, .int 0]) k_Md_mustSequence rfl rfl rfl rfl rfl rfl (Nat.le_of_ble_eq_true rfl) (ih.1 _ _ _ _ _ (by omega) hT hS hm) ?_
                  refine gm_is (M' := m_Md_behind) (As := [.long _, .long _]) k_Md_mustSequence rfl rfl rfl rfl rfl rfl (Nat.le_of_ble_eq_true rfl) (fun h => c_Md_behind _ _ h) ?_
                  refine gm_p k_Md_mustSequence rfl rfl ?_
                  refine gm_p k_Md_mustSequence rfl rfl ?_
                  refine gm_g k_Md_mustSequence rfl rfl rfl rfl ?_
                  refine gm_p k_Md_mustSequence rfl rfl ?_
                  refine gm_ld k_Md_mustSequence rfl rfl (gi_in (by assumption)) (by decide) ?_
                  refine gm_p k_Md_mustSequence rfl rfl ?_
                  refine gm_j k_Md_mustSequence rfl rfl ?_
                  exact ihn _ _ hk
            · rw [if_neg g1] at hk
              cases hk
  refine gm_meth (k := 3) (L := [some (.ref a), some (.int p), some (.int res), none, none, none]) pn_Md rfl (Nat.le_of_ble_eq_true rfl) ?_
  unfold mw_ms at hp
  rw [mw_fo_c hT, ← hT 23 (by decide) (by decide), ← hT 24 (by decide) (by decide)] at hp
  by_cases g1 : gi p 2600 = true
  · rw [if_pos g1] at hp
    cases hk : mw_fo σ.2 S res 2601 (σ.2 23 p.toNatClampNeg) with
    | none =>
      rw [hk] at hp
      cases hp
    | some k =>
      rw [hk] at hp
      try dsimp only at hp
      cases hx : f false k res 0 (σ.2 38) with
      | none =>
        rw [hx] at hp
        cases hp
      | some x =>
        rw [hx] at hp
        try dsimp only at hp
        by_cases g2 : gi k 2600 = true
        · rw [if_pos g2] at hp
          rw [show mw_sq (fun q => f false q 0 0 (σ.2 38)) T = mw_sq (fun q => f false q 0 0 (σ.2 38)) σ.2 from congrFun (mw_sq_c hT) _] at hp
          rw [← hS] at hk
          refine gm_p k_Md_mustSequence rfl rfl ?_
          refine gm_p k_Md_mustSequence rfl rfl ?_
          refine gm_p k_Md_mustSequence rfl rfl ?_
          refine gm_ivE (M' := m_Md_firstOf) (As := [.int p, .int res]) k_Md_mustSequence rfl rfl rfl rfl rfl rfl (Nat.le_of_ble_eq_true rfl) (c_Md_firstOf g1 hk) ?_
          refine gm_p k_Md_mustSequence rfl rfl ?_
          refine gm_p k_Md_mustSequence rfl rfl ?_
          refine gm_p k_Md_mustSequence rfl rfl ?_
          refine gm_p k_Md_mustSequence rfl rfl ?_
          refine gm_ivE (M' := m_Md_must) (As := [.int k, .int res]) k_Md_mustSequence rfl rfl rfl rfl rfl rfl (Nat.le_of_ble_eq_true rfl) (ih.1 _ _ _ _ _ (by omega) hT hS hx) ?_
          refine gm_p k_Md_mustSequence rfl rfl ?_
          refine gm_p k_Md_mustSequence rfl rfl ?_
          refine gm_g k_Md_mustSequence rfl rfl rfl rfl ?_
          refine gm_p k_Md_mustSequence rfl rfl ?_
          refine gm_ld k_Md_mustSequence rfl rfl (gi_in (by assumption)) (by decide) ?_
          refine gm_p k_Md_mustSequence rfl rfl ?_
          exact loop _ _ _ hp
        · rw [if_neg g2] at hp
          cases hp
  · rw [if_neg g1] at hp
    cases hp
theorem c_Md_mustParallel (ih : mw_IH l F a A D T S f) {dd : Nat} {p res : Int32} {v : Int64} (hD : D + 1 ≤ dd) (h3 : 4 ≤ dd) (hT : ∀ k, 20 ≤ k → k ≤ 25 → σ.2 k = T k) (hS : σ.1 39 = S) (hp : mw_mp T S f p res (σ.2 38) = some v) : gm_Has l F dd m_Md_mustParallel a A [.int p, .int res] σ (fun w σ' => w = some (.long v) ∧ σ' = σ) := by
  obtain ⟨d, rfl⟩ : ∃ d, dd = d + 4 := ⟨dd - 4, by omega⟩
  have loop : ∀ (n : Nat) (k : Int32) (al : Int64), mw_pl (fun q => f false q res 0 (σ.2 38)) σ.2 (σ.1 39) res n k al = some v → gm_Go l F (d + 4) m_Md_mustParallel a A 10 [some (.ref a), some (.int p), some (.int res), some (.long al), none, some (.int k)] [] σ (fun w σ' => w = some (.long v) ∧ σ' = σ) := by
    intro n
    induction n with
    | zero => intro k al hk; cases hk
    | succ n ihn =>
      intro k al hk
      unfold mw_pl at hk
      try dsimp only at hk
      by_cases h1 : k = -1
      · rw [if_pos h1] at hk
        cases hk
        refine gm_p k_Md_mustParallel rfl rfl ?_
        refine gm_p k_Md_mustParallel rfl rfl ?_
        refine gm_ic k_Md_mustParallel rfl rfl rfl (fun hc13 => ?_) (fun hc13 => ?_)
        · (try dsimp only at hc13)
          refine gm_p k_Md_mustParallel rfl rfl ?_
          exact gm_ret (v := some (.long _)) k_Md_mustParallel rfl rfl trivial rfl ⟨rfl, rfl⟩
        · (try dsimp only at hc13)
          (exfalso; simp_all; done)
      · rw [if_neg h1] at hk
        by_cases h2 : res = 0
        · rw [if_pos h2] at hk
          cases hm : f false k res 0 (σ.2 38) with
          | none =>
            rw [hm] at hk
            cases hk
          | some m =>
            rw [hm] at hk
            try dsimp only at hk
            by_cases g1 : gi k 2600 = true
            · rw [if_pos g1] at hk
              refine gm_p k_Md_mustParallel rfl rfl ?_
              refine gm_p k_Md_mustParallel rfl rfl ?_
              refine gm_ic k_Md_mustParallel rfl rfl rfl (fun hc13 => ?_) (fun hc13 => ?_)
              · (try dsimp only at hc13)
                (exfalso; simp_all; done)
              · (try dsimp only at hc13)
                refine gm_p k_Md_mustParallel rfl rfl ?_
                refine gm_p k_Md_mustParallel rfl rfl ?_
                refine gm_if k_Md_mustParallel rfl rfl rfl (fun hc18 => ?_) (fun hc18 => ?_)
                · (try dsimp only at hc18)
                  refine gm_p k_Md_mustParallel rfl rfl ?_
                  refine gm_p k_Md_mustParallel rfl rfl ?_
                  refine gm_p k_Md_mustParallel rfl rfl ?_
                  refine gm_ivE (M' := m_Md_must) (As := [.int k, .int res]) k_Md_mustParallel rfl rfl rfl rfl rfl rfl (Nat.le_of_ble_eq_true rfl) (ih.1 _ _ _ _ _ (by omega) hT hS hm) ?_
                  refine gm_is (M' := m_Md_beside) (As := [.long _, .long _]) k_Md_mustParallel rfl rfl rfl rfl rfl rfl (Nat.le_of_ble_eq_true rfl) (fun h => c_Md_beside _ _ h) ?_
                  refine gm_p k_Md_mustParallel rfl rfl ?_
                  refine gm_p k_Md_mustParallel rfl rfl ?_
                  refine gm_g k_Md_mustParallel rfl rfl rfl rfl ?_
                  refine gm_p k_Md_mustParallel rfl rfl ?_
                  refine gm_ld k_Md_mustParallel rfl rfl (gi_in (by assumption)) (by decide) ?_
                  refine gm_p k_Md_mustParallel rfl rfl ?_
                  refine gm_j k_Md_mustParallel rfl rfl ?_
                  exact ihn _ _ hk
                · (try dsimp only at hc18)
                  (exfalso; simp_all; done)
            · rw [if_neg g1] at hk
              cases hk
        · rw [if_neg h2] at hk
          by_cases g1 : gi k 2600 = true
          · rw [if_pos g1] at hk
            by_cases h4 : σ.2 25 k.toNatClampNeg &&& σ.1 39 = 0
            · rw [if_pos h4] at hk
              try dsimp only at hk
              rw [if_pos g1] at hk
              refine gm_p k_Md_mustParallel rfl rfl ?_
              refine gm_p k_Md_mustParallel rfl rfl ?_
              refine gm_ic k_Md_mustParallel rfl rfl rfl (fun hc13 => ?_) (fun hc13 => ?_)
              · (try dsimp only at hc13)
                (exfalso; simp_all; done)
              · (try dsimp only at hc13)
                refine gm_p k_Md_mustParallel rfl rfl ?_
                refine gm_p k_Md_mustParallel rfl rfl ?_
                refine gm_if k_Md_mustParallel rfl rfl rfl (fun hc18 => ?_) (fun hc18 => ?_)
                · (try dsimp only at hc18)
                  (exfalso; simp_all; done)
                · (try dsimp only at hc18)
                  refine gm_p k_Md_mustParallel rfl rfl ?_
                  refine gm_p k_Md_mustParallel rfl rfl ?_
                  refine gm_ivE (M' := m_Md_isWithin) (As := [.int _]) k_Md_mustParallel rfl rfl rfl rfl rfl rfl (Nat.le_of_ble_eq_true rfl) (c_Md_isWithin (by assumption)) ?_
                  refine gm_if k_Md_mustParallel rfl rfl rfl (fun hc27 => ?_) (fun hc27 => ?_)
                  · (try dsimp only at hc27)
                    (exfalso; simp_all; done)
                  · (try dsimp only at hc27)
                    refine gm_p k_Md_mustParallel rfl rfl ?_
                    refine gm_j k_Md_mustParallel rfl rfl ?_
                    refine gm_is (M' := m_Md_beside) (As := [.long _, .long _]) k_Md_mustParallel rfl rfl rfl rfl rfl rfl (Nat.le_of_ble_eq_true rfl) (fun h => c_Md_beside _ _ h) ?_
                    refine gm_p k_Md_mustParallel rfl rfl ?_
                    refine gm_p k_Md_mustParallel rfl rfl ?_
                    refine gm_g k_Md_mustParallel rfl rfl rfl rfl ?_
                    refine gm_p k_Md_mustParallel rfl rfl ?_
                    refine gm_ld k_Md_mustParallel rfl rfl (gi_in (by assumption)) (by decide) ?_
                    refine gm_p k_Md_mustParallel rfl rfl ?_
                    refine gm_j k_Md_mustParallel rfl rfl ?_
                    exact ihn _ _ hk
            · rw [if_neg h4] at hk
              cases hm : f false k res 0 (σ.2 38) with
              | none =>
                rw [hm] at hk
                cases hk
              | some m =>
                rw [hm] at hk
                try dsimp only at hk
                rw [if_pos g1] at hk
                refine gm_p k_Md_mustParallel rfl rfl ?_
                refine gm_p k_Md_mustParallel rfl rfl ?_
                refine gm_ic k_Md_mustParallel rfl rfl rfl (fun hc13 => ?_) (fun hc13 => ?_)
                · (try dsimp only at hc13)
                  (exfalso; simp_all; done)
                · (try dsimp only at hc13)
                  refine gm_p k_Md_mustParallel rfl rfl ?_
                  refine gm_p k_Md_mustParallel rfl rfl ?_
                  refine gm_if k_Md_mustParallel rfl rfl rfl (fun hc18 => ?_) (fun hc18 => ?_)
                  · (try dsimp only at hc18)
                    (exfalso; simp_all; done)
                  · (try dsimp only at hc18)
                    refine gm_p k_Md_mustParallel rfl rfl ?_
                    refine gm_p k_Md_mustParallel rfl rfl ?_
                    refine gm_ivE (M' := m_Md_isWithin) (As := [.int _]) k_Md_mustParallel rfl rfl rfl rfl rfl rfl (Nat.le_of_ble_eq_true rfl) (c_Md_isWithin (by assumption)) ?_
                    refine gm_if k_Md_mustParallel rfl rfl rfl (fun hc27 => ?_) (fun hc27 => ?_)
                    · (try dsimp only at hc27)
                      refine gm_p k_Md_mustParallel rfl rfl ?_
                      refine gm_p k_Md_mustParallel rfl rfl ?_
                      refine gm_p k_Md_mustParallel rfl rfl ?_
                      refine gm_ivE (M' := m_Md_must) (As := [.int k, .int res]) k_Md_mustParallel rfl rfl rfl rfl rfl rfl (Nat.le_of_ble_eq_true rfl) (ih.1 _ _ _ _ _ (by omega) hT hS hm) ?_
                      refine gm_is (M' := m_Md_beside) (As := [.long _, .long _]) k_Md_mustParallel rfl rfl rfl rfl rfl rfl (Nat.le_of_ble_eq_true rfl) (fun h => c_Md_beside _ _ h) ?_
                      refine gm_p k_Md_mustParallel rfl rfl ?_
                      refine gm_p k_Md_mustParallel rfl rfl ?_
                      refine gm_g k_Md_mustParallel rfl rfl rfl rfl ?_
                      refine gm_p k_Md_mustParallel rfl rfl ?_
                      refine gm_ld k_Md_mustParallel rfl rfl (gi_in (by assumption)) (by decide) ?_
                      refine gm_p k_Md_mustParallel rfl rfl ?_
                      refine gm_j k_Md_mustParallel rfl rfl ?_
                      exact ihn _ _ hk
                    · (try dsimp only at hc27)
                      (exfalso; simp_all; done)
          · rw [if_neg g1] at hk
            cases hk
  refine gm_meth (k := 3) (L := [some (.ref a), some (.int p), some (.int res), none, none, none]) pn_Md rfl (Nat.le_of_ble_eq_true rfl) ?_
  unfold mw_mp at hp
  rw [← hT 23 (by decide) (by decide)] at hp
  by_cases g1 : gi p 2600 = true
  · rw [if_pos g1] at hp
    rw [show mw_pl (fun q => f false q res 0 (σ.2 38)) T = mw_pl (fun q => f false q res 0 (σ.2 38)) σ.2 from congrFun (mw_pl_c hT) _, ← hS] at hp
    refine gm_p k_Md_mustParallel rfl rfl ?_
    refine gm_p k_Md_mustParallel rfl rfl ?_
    refine gm_p k_Md_mustParallel rfl rfl ?_
    refine gm_g k_Md_mustParallel rfl rfl rfl rfl ?_
    refine gm_p k_Md_mustParallel rfl rfl ?_
    refine gm_ld k_Md_mustParallel rfl rfl (gi_in (by assumption)) (by decide) ?_
    refine gm_p k_Md_mustParallel rfl rfl ?_
    exact loop _ _ _ hp
  · rw [if_neg g1] at hp
    cases hp
end MD4
