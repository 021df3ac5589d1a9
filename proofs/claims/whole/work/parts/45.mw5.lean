def mw_cl (f : mw_F) (k res sure : Int32) (K : Nat → Int32) : Option Int64 := match f true k res sure K with
  | none => none
  | some x => if res = 0 then some x else if q_hasC x 0 = 0 then some x else if sure = 0 then (match f true k 0 0 K with
      | none => none
      | some y => some (q_behind x y))
    else match f false k 1 0 K with
      | none => none
      | some m => if q_hasC m 0 = 0 then (match f true k 0 0 K with
          | none => none
          | some y => some (q_behind x y))
        else match f true k 0 1 K with
          | none => none
          | some y => some (q_behind x y)
def mw_cs (f : mw_F) (T : mw_A) (K : Nat → Int32) : Nat → Int32 → Int64 → Int32 → Option Int64
  | 0, _, _, _ => none
  | n + 1, k, al, s => if k = -1 then some al else if q_hasC al 0 = 0 then some al else match f true k 0 s K with
    | none => none
    | some m => if s = 0 then (if gi k 2600 = true then mw_cs f T K n (T 24 k.toNatClampNeg) (q_behind al m) 0 else none) else match f false k 0 0 K with
      | none => none
      | some z => if gi k 2600 = true then (if q_hasC z 0 = 0 then mw_cs f T K n (T 24 k.toNatClampNeg) (q_behind al m) 0 else mw_cs f T K n (T 24 k.toNatClampNeg) (q_behind al m) 1) else none
theorem mw_cs_c {T U : mw_A} (h : ∀ k, 20 ≤ k → k ≤ 25 → U k = T k) : (fun f => mw_cs f T) = (fun f => mw_cs f U) := by
  funext f K n
  induction n with
  | zero => rfl
  | succ n ih =>
    funext k al s
    simp only [mw_cs, ih, h 24 (by decide) (by decide)]
def mw_cq (T : mw_A) (S : Int32) (f : mw_F) (p res sure : Int32) (K : Nat → Int32) : Option Int64 := if gi p 2600 = true then (match mw_fo T S res 2601 (T 23 p.toNatClampNeg) with
  | none => none
  | some k => match f true k res sure K with
    | none => none
    | some x => if sure = 0 then (if gi k 2600 = true then mw_cs f T K 2601 (T 24 k.toNatClampNeg) x 0 else none) else match f false k res 0 K with
      | none => none
      | some z => if gi k 2600 = true then (if q_hasC z 0 = 0 then mw_cs f T K 2601 (T 24 k.toNatClampNeg) x 0 else mw_cs f T K 2601 (T 24 k.toNatClampNeg) x 1) else none) else none
def mw_cp (T : mw_A) (S : Int32) (f : mw_F) (p res sure : Int32) (K : Nat → Int32) : Option Int64 := if gi p 2600 = true then mw_pl (fun q => f true q res sure K) T S res 2601 (T 23 p.toNatClampNeg) 1 else none
def mw_cc (T : mw_A) (f : mw_F) (p res sure : Int32) (K : Nat → Int32) : Option Int64 := if sure = 0 then (if gi p 2600 = true then (if gi (T 21 p.toNatClampNeg) 26 = true then (match f true (T 23 p.toNatClampNeg) res 0 (upd K (T 21 p.toNatClampNeg).toNatClampNeg 0) with
    | none => none
    | some y => if q_hasS y (T 21 p.toNatClampNeg) = 0 then (match f true (T 23 p.toNatClampNeg) res sure (upd K (T 21 p.toNatClampNeg).toNatClampNeg 2) with
        | none => none
        | some x => some (q_wo x (T 21 p.toNatClampNeg)))
      else match f true (T 23 p.toNatClampNeg) res sure (upd K (T 21 p.toNatClampNeg).toNatClampNeg 0) with
        | none => none
        | some x => some (q_wo x (T 21 p.toNatClampNeg))) else none) else none)
  else match mw_lk T f p res K with
    | none => none
    | some K1 => match f true (T 23 p.toNatClampNeg) res sure K1 with
      | none => none
      | some x => some (q_wo x (T 21 p.toNatClampNeg))
def mw_can (T : mw_A) (S : Int32) (f : mw_F) (p res sure : Int32) (K : Nat → Int32) : Option Int64 :=
  if T 20 p.toNatClampNeg = 0 then f false p res 0 K
  else if T 20 p.toNatClampNeg = 1 then f false p res 0 K
  else if T 20 p.toNatClampNeg = 2 then f false p res 0 K
  else if T 20 p.toNatClampNeg = 3 then (if res = 0 then (if gi (T 21 p.toNatClampNeg) 26 = true then (if K (T 21 p.toNatClampNeg).toNatClampNeg = 0 then (match f true (T 23 p.toNatClampNeg) 0 0 K with
        | none => none
        | some x => if gi (T 23 p.toNatClampNeg) 2600 = true then (match f true (T 24 (T 23 p.toNatClampNeg).toNatClampNeg) 0 0 K with
          | none => none
          | some y => some (x ||| y)) else none)
      else (match mw_ch T S p (K (T 21 p.toNatClampNeg).toNatClampNeg) with
      | none => none
      | some q => f true q 0 sure K)) else none) else (match mw_ch T S p 0 with
      | none => none
      | some q => f true q 1 sure K))
  else if T 20 p.toNatClampNeg = 4 then mw_cl f (T 23 p.toNatClampNeg) res sure K
  else if T 20 p.toNatClampNeg = 5 then (if res = 0 then f true (T 23 p.toNatClampNeg) res sure K else if gi (T 21 p.toNatClampNeg) 26 = true then (if K (T 21 p.toNatClampNeg).toNatClampNeg = 2 then f true (T 23 p.toNatClampNeg) res sure K else if K (T 21 p.toNatClampNeg).toNatClampNeg = 1 then some 2 else match f true (T 23 p.toNatClampNeg) 1 0 K with
      | none => none
      | some x => some (x ||| 2)) else none)
  else if T 20 p.toNatClampNeg = 6 then (match f true (T 23 p.toNatClampNeg) res sure K with
      | none => none
      | some x => some (q_join x (q_low x.toInt32)))
  else if T 20 p.toNatClampNeg = 7 then f false p res 0 K
  else if T 20 p.toNatClampNeg = 8 then mw_cc T f p res sure K
  else if T 20 p.toNatClampNeg = 9 then mw_cq T S f p res sure K
  else mw_cp T S f p res sure K
section MD6
variable {l : Launch} {F : gx_F} {d D : Nat} {a : Nat} {A : Nat → Nat} {σ : gm_S} {T : mw_A} {S : Int32} {f : mw_F}
theorem c_Md_canLoop (ih : mw_IH l F a A D T S f) {dd : Nat} {k res sure : Int32} {v : Int64} (hD : D + 1 ≤ dd) (h3 : 4 ≤ dd) (hT : ∀ k, 20 ≤ k → k ≤ 25 → σ.2 k = T k) (hS : σ.1 39 = S) (hp : mw_cl f k res sure (σ.2 38) = some v) : gm_Has l F dd m_Md_canLoop a A [.int k, .int res, .int sure] σ (fun w σ' => w = some (.long v) ∧ σ' = σ) := by
  obtain ⟨d, rfl⟩ : ∃ d, dd = d + 4 := ⟨dd - 4, by omega⟩
  refine gm_meth (k := 2) (L := [some (.ref a), some (.int k), some (.int res), some (.int sure), none, none]) pn_Md rfl (Nat.le_of_ble_eq_true rfl) ?_
  unfold mw_cl at hp
  cases hx : f true k res sure (σ.2 38) with
  | none =>
    rw [hx] at hp
    cases hp
  | some x =>
    rw [hx] at hp
    try dsimp only at hp
    by_cases h1 : res = 0
    · rw [if_pos h1] at hp
      cases hp
      refine gm_p k_Md_canLoop rfl rfl ?_
      refine gm_p k_Md_canLoop rfl rfl ?_
      refine gm_p k_Md_canLoop rfl rfl ?_
      refine gm_p k_Md_canLoop rfl rfl ?_
      refine gm_ivE (M' := m_Md_can) (As := [.int k, .int res, .int sure]) k_Md_canLoop rfl rfl rfl rfl rfl rfl (Nat.le_of_ble_eq_true rfl) (ih.2 _ _ _ _ _ _ (by omega) hT hS hx) ?_
      refine gm_p k_Md_canLoop rfl rfl ?_
      refine gm_p k_Md_canLoop rfl rfl ?_
      refine gm_if k_Md_canLoop rfl rfl rfl (fun hc10 => ?_) (fun hc10 => ?_)
      · (try dsimp only at hc10)
        refine gm_p k_Md_canLoop rfl rfl ?_
        exact gm_ret (v := some (.long _)) k_Md_canLoop rfl rfl trivial rfl ⟨rfl, rfl⟩
      · (try dsimp only at hc10)
        (exfalso; simp_all; done)
    · rw [if_neg h1] at hp
      by_cases h2 : q_hasC x 0 = 0
      · rw [if_pos h2] at hp
        cases hp
        refine gm_p k_Md_canLoop rfl rfl ?_
        refine gm_p k_Md_canLoop rfl rfl ?_
        refine gm_p k_Md_canLoop rfl rfl ?_
        refine gm_p k_Md_canLoop rfl rfl ?_
        refine gm_ivE (M' := m_Md_can) (As := [.int k, .int res, .int sure]) k_Md_canLoop rfl rfl rfl rfl rfl rfl (Nat.le_of_ble_eq_true rfl) (ih.2 _ _ _ _ _ _ (by omega) hT hS hx) ?_
        refine gm_p k_Md_canLoop rfl rfl ?_
        refine gm_p k_Md_canLoop rfl rfl ?_
        refine gm_if k_Md_canLoop rfl rfl rfl (fun hc10 => ?_) (fun hc10 => ?_)
        · (try dsimp only at hc10)
          (exfalso; simp_all; done)
        · (try dsimp only at hc10)
          refine gm_p k_Md_canLoop rfl rfl ?_
          refine gm_p k_Md_canLoop rfl rfl ?_
          refine gm_is (M' := m_Md_hasCode) (As := [.long _, .int 0]) k_Md_canLoop rfl rfl rfl rfl rfl rfl (Nat.le_of_ble_eq_true rfl) (fun h => c_Md_hasCode _ _ h) ?_
          refine gm_if k_Md_canLoop rfl rfl rfl (fun hc19 => ?_) (fun hc19 => ?_)
          · (try dsimp only at hc19)
            (exfalso; simp_all; done)
          · (try dsimp only at hc19)
            refine gm_p k_Md_canLoop rfl rfl ?_
            exact gm_ret (v := some (.long _)) k_Md_canLoop rfl rfl trivial rfl ⟨rfl, rfl⟩
      · rw [if_neg h2] at hp
        by_cases h4 : sure = 0
        · rw [if_pos h4] at hp
          cases hy : f true k 0 0 (σ.2 38) with
          | none =>
            rw [hy] at hp
            cases hp
          | some y =>
            rw [hy] at hp
            try dsimp only at hp
            cases hp
            refine gm_p k_Md_canLoop rfl rfl ?_
            refine gm_p k_Md_canLoop rfl rfl ?_
            refine gm_p k_Md_canLoop rfl rfl ?_
            refine gm_p k_Md_canLoop rfl rfl ?_
            refine gm_ivE (M' := m_Md_can) (As := [.int k, .int res, .int sure]) k_Md_canLoop rfl rfl rfl rfl rfl rfl (Nat.le_of_ble_eq_true rfl) (ih.2 _ _ _ _ _ _ (by omega) hT hS hx) ?_
            refine gm_p k_Md_canLoop rfl rfl ?_
            refine gm_p k_Md_canLoop rfl rfl ?_
            refine gm_if k_Md_canLoop rfl rfl rfl (fun hc10 => ?_) (fun hc10 => ?_)
            · (try dsimp only at hc10)
              (exfalso; simp_all; done)
            · (try dsimp only at hc10)
              refine gm_p k_Md_canLoop rfl rfl ?_
              refine gm_p k_Md_canLoop rfl rfl ?_
              refine gm_is (M' := m_Md_hasCode) (As := [.long _, .int 0]) k_Md_canLoop rfl rfl rfl rfl rfl rfl (Nat.le_of_ble_eq_true rfl) (fun h => c_Md_hasCode _ _ h) ?_
              refine gm_if k_Md_canLoop rfl rfl rfl (fun hc19 => ?_) (fun hc19 => ?_)
              · (try dsimp only at hc19)
                refine gm_p k_Md_canLoop rfl rfl ?_
                refine gm_p k_Md_canLoop rfl rfl ?_
                refine gm_p k_Md_canLoop rfl rfl ?_
                refine gm_p k_Md_canLoop rfl rfl ?_
                refine gm_p k_Md_canLoop rfl rfl ?_
                refine gm_if k_Md_canLoop rfl rfl rfl (fun hc31 => ?_) (fun hc31 => ?_)
                · (try dsimp only at hc31)
                  refine gm_p k_Md_canLoop rfl rfl ?_
                  refine gm_ivE (M' := m_Md_can) (As := [.int k, .int 0, .int 0]) k_Md_canLoop rfl rfl rfl rfl rfl rfl (Nat.le_of_ble_eq_true rfl) (ih.2 _ _ _ _ _ _ (by omega) hT hS hy) ?_
                  refine gm_is (M' := m_Md_behind) (As := [.long _, .long _]) k_Md_canLoop rfl rfl rfl rfl rfl rfl (Nat.le_of_ble_eq_true rfl) (fun h => c_Md_behind _ _ h) ?_
                  exact gm_ret (v := some (.long _)) k_Md_canLoop rfl rfl trivial rfl ⟨rfl, rfl⟩
                · (try dsimp only at hc31)
                  (exfalso; simp_all; done)
              · (try dsimp only at hc19)
                (exfalso; simp_all; done)
        · rw [if_neg h4] at hp
          cases hm : f false k 1 0 (σ.2 38) with
          | none =>
            rw [hm] at hp
            cases hp
          | some m =>
            rw [hm] at hp
            try dsimp only at hp
            by_cases h5 : q_hasC m 0 = 0
            · rw [if_pos h5] at hp
              cases hy : f true k 0 0 (σ.2 38) with
              | none =>
                rw [hy] at hp
                cases hp
              | some y =>
                rw [hy] at hp
                try dsimp only at hp
                cases hp
                refine gm_p k_Md_canLoop rfl rfl ?_
                refine gm_p k_Md_canLoop rfl rfl ?_
                refine gm_p k_Md_canLoop rfl rfl ?_
                refine gm_p k_Md_canLoop rfl rfl ?_
                refine gm_ivE (M' := m_Md_can) (As := [.int k, .int res, .int sure]) k_Md_canLoop rfl rfl rfl rfl rfl rfl (Nat.le_of_ble_eq_true rfl) (ih.2 _ _ _ _ _ _ (by omega) hT hS hx) ?_
                refine gm_p k_Md_canLoop rfl rfl ?_
                refine gm_p k_Md_canLoop rfl rfl ?_
                refine gm_if k_Md_canLoop rfl rfl rfl (fun hc10 => ?_) (fun hc10 => ?_)
                · (try dsimp only at hc10)
                  (exfalso; simp_all; done)
                · (try dsimp only at hc10)
                  refine gm_p k_Md_canLoop rfl rfl ?_
                  refine gm_p k_Md_canLoop rfl rfl ?_
                  refine gm_is (M' := m_Md_hasCode) (As := [.long _, .int 0]) k_Md_canLoop rfl rfl rfl rfl rfl rfl (Nat.le_of_ble_eq_true rfl) (fun h => c_Md_hasCode _ _ h) ?_
                  refine gm_if k_Md_canLoop rfl rfl rfl (fun hc19 => ?_) (fun hc19 => ?_)
                  · (try dsimp only at hc19)
                    refine gm_p k_Md_canLoop rfl rfl ?_
                    refine gm_p k_Md_canLoop rfl rfl ?_
                    refine gm_p k_Md_canLoop rfl rfl ?_
                    refine gm_p k_Md_canLoop rfl rfl ?_
                    refine gm_p k_Md_canLoop rfl rfl ?_
                    refine gm_if k_Md_canLoop rfl rfl rfl (fun hc31 => ?_) (fun hc31 => ?_)
                    · (try dsimp only at hc31)
                      (exfalso; simp_all; done)
                    · (try dsimp only at hc31)
                      refine gm_p k_Md_canLoop rfl rfl ?_
                      refine gm_p k_Md_canLoop rfl rfl ?_
                      refine gm_p k_Md_canLoop rfl rfl ?_
                      refine gm_ivE (M' := m_Md_must) (As := [.int k, .int 1]) k_Md_canLoop rfl rfl rfl rfl rfl rfl (Nat.le_of_ble_eq_true rfl) (ih.1 _ _ _ _ _ (by omega) hT hS hm) ?_
                      refine gm_p k_Md_canLoop rfl rfl ?_
                      refine gm_is (M' := m_Md_hasCode) (As := [.long _, .int 0]) k_Md_canLoop rfl rfl rfl rfl rfl rfl (Nat.le_of_ble_eq_true rfl) (fun h => c_Md_hasCode _ _ h) ?_
                      refine gm_if k_Md_canLoop rfl rfl rfl (fun hc44 => ?_) (fun hc44 => ?_)
                      · (try dsimp only at hc44)
                        refine gm_p k_Md_canLoop rfl rfl ?_
                        refine gm_ivE (M' := m_Md_can) (As := [.int k, .int 0, .int 0]) k_Md_canLoop rfl rfl rfl rfl rfl rfl (Nat.le_of_ble_eq_true rfl) (ih.2 _ _ _ _ _ _ (by omega) hT hS hy) ?_
                        refine gm_is (M' := m_Md_behind) (As := [.long _, .long _]) k_Md_canLoop rfl rfl rfl rfl rfl rfl (Nat.le_of_ble_eq_true rfl) (fun h => c_Md_behind _ _ h) ?_
                        exact gm_ret (v := some (.long _)) k_Md_canLoop rfl rfl trivial rfl ⟨rfl, rfl⟩
                      · (try dsimp only at hc44)
                        (exfalso; simp_all; done)
                  · (try dsimp only at hc19)
                    (exfalso; simp_all; done)
            · rw [if_neg h5] at hp
              cases hy : f true k 0 1 (σ.2 38) with
              | none =>
                rw [hy] at hp
                cases hp
              | some y =>
                rw [hy] at hp
                try dsimp only at hp
                cases hp
                refine gm_p k_Md_canLoop rfl rfl ?_
                refine gm_p k_Md_canLoop rfl rfl ?_
                refine gm_p k_Md_canLoop rfl rfl ?_
                refine gm_p k_Md_canLoop rfl rfl ?_
                refine gm_ivE (M' := m_Md_can) (As := [.int k, .int res, .int sure]) k_Md_canLoop rfl rfl rfl rfl rfl rfl (Nat.le_of_ble_eq_true rfl) (ih.2 _ _ _ _ _ _ (by omega) hT hS hx) ?_
                refine gm_p k_Md_canLoop rfl rfl ?_
                refine gm_p k_Md_canLoop rfl rfl ?_
                refine gm_if k_Md_canLoop rfl rfl rfl (fun hc10 => ?_) (fun hc10 => ?_)
                · (try dsimp only at hc10)
                  (exfalso; simp_all; done)
                · (try dsimp only at hc10)
                  refine gm_p k_Md_canLoop rfl rfl ?_
                  refine gm_p k_Md_canLoop rfl rfl ?_
                  refine gm_is (M' := m_Md_hasCode) (As := [.long _, .int 0]) k_Md_canLoop rfl rfl rfl rfl rfl rfl (Nat.le_of_ble_eq_true rfl) (fun h => c_Md_hasCode _ _ h) ?_
                  refine gm_if k_Md_canLoop rfl rfl rfl (fun hc19 => ?_) (fun hc19 => ?_)
                  · (try dsimp only at hc19)
                    refine gm_p k_Md_canLoop rfl rfl ?_
                    refine gm_p k_Md_canLoop rfl rfl ?_
                    refine gm_p k_Md_canLoop rfl rfl ?_
                    refine gm_p k_Md_canLoop rfl rfl ?_
                    refine gm_p k_Md_canLoop rfl rfl ?_
                    refine gm_if k_Md_canLoop rfl rfl rfl (fun hc31 => ?_) (fun hc31 => ?_)
                    · (try dsimp only at hc31)
                      (exfalso; simp_all; done)
                    · (try dsimp only at hc31)
                      refine gm_p k_Md_canLoop rfl rfl ?_
                      refine gm_p k_Md_canLoop rfl rfl ?_
                      refine gm_p k_Md_canLoop rfl rfl ?_
                      refine gm_ivE (M' := m_Md_must) (As := [.int k, .int 1]) k_Md_canLoop rfl rfl rfl rfl rfl rfl (Nat.le_of_ble_eq_true rfl) (ih.1 _ _ _ _ _ (by omega) hT hS hm) ?_
                      refine gm_p k_Md_canLoop rfl rfl ?_
                      refine gm_is (M' := m_Md_hasCode) (As := [.long _, .int 0]) k_Md_canLoop rfl rfl rfl rfl rfl rfl (Nat.le_of_ble_eq_true rfl) (fun h => c_Md_hasCode _ _ h) ?_
                      refine gm_if k_Md_canLoop rfl rfl rfl (fun hc44 => ?_) (fun hc44 => ?_)
                      · (try dsimp only at hc44)
                        (exfalso; simp_all; done)
                      · (try dsimp only at hc44)
                        refine gm_p k_Md_canLoop rfl rfl ?_
                        refine gm_j k_Md_canLoop rfl rfl ?_
                        refine gm_ivE (M' := m_Md_can) (As := [.int k, .int 0, .int 1]) k_Md_canLoop rfl rfl rfl rfl rfl rfl (Nat.le_of_ble_eq_true rfl) (ih.2 _ _ _ _ _ _ (by omega) hT hS hy) ?_
                        refine gm_is (M' := m_Md_behind) (As := [.long _, .long _]) k_Md_canLoop rfl rfl rfl rfl rfl rfl (Nat.le_of_ble_eq_true rfl) (fun h => c_Md_behind _ _ h) ?_
                        exact gm_ret (v := some (.long _)) k_Md_canLoop rfl rfl trivial rfl ⟨rfl, rfl⟩
                  · (try dsimp only at hc19)
                    (exfalso; simp_all; done)
theorem c_Md_canParallel (ih : mw_IH l F a A D T S f) {dd : Nat} {p res sure : Int32} {v : Int64} (hD : D + 1 ≤ dd) (h3 : 4 ≤ dd) (hT : ∀ k, 20 ≤ k → k ≤ 25 → σ.2 k = T k) (hS : σ.1 39 = S) (hp : mw_cp T S f p res sure (σ.2 38) = some v) : gm_Has l F dd m_Md_canParallel a A [.int p, .int res, .int sure] σ (fun w σ' => w = some (.long v) ∧ σ' = σ) := by
  obtain ⟨d, rfl⟩ : ∃ d, dd = d + 4 := ⟨dd - 4, by omega⟩
  have loop : ∀ (n : Nat) (k : Int32) (al : Int64), mw_pl (fun q => f true q res sure (σ.2 38)) σ.2 (σ.1 39) res n k al = some v → gm_Go l F (d + 4) m_Md_canParallel a A 11 ([some (.ref a), some (.int p), some (.int res), some (.int sure), some (.long al), none, some (.int k)]) [] σ (fun w σ' => w = some (.long v) ∧ σ' = σ) := by
    intro n
    induction n with
    | zero => intro k al hk; cases hk
    | succ n ihn =>
      intro k al hk
      unfold mw_pl at hk
      try dsimp only at hk
      by_cases h1 : k = -1
      · rw [if_pos h1] at hk
        cases hk
        refine gm_p k_Md_canParallel rfl rfl ?_
        refine gm_p k_Md_canParallel rfl rfl ?_
        refine gm_ic k_Md_canParallel rfl rfl rfl (fun hc14 => ?_) (fun hc14 => ?_)
        · (try dsimp only at hc14)
          refine gm_p k_Md_canParallel rfl rfl ?_
          exact gm_ret (v := some (.long _)) k_Md_canParallel rfl rfl trivial rfl ⟨rfl, rfl⟩
        · (try dsimp only at hc14)
          (exfalso; simp_all; done)
      · rw [if_neg h1] at hk
        by_cases h2 : res = 0
        · rw [if_pos h2] at hk
          cases hm : f true k res sure (σ.2 38) with
          | none =>
            rw [hm] at hk
            cases hk
          | some m =>
            rw [hm] at hk
            try dsimp only at hk
            by_cases g1 : gi k 2600 = true
            · rw [if_pos g1] at hk
              refine gm_p k_Md_canParallel rfl rfl ?_
              refine gm_p k_Md_canParallel rfl rfl ?_
              refine gm_ic k_Md_canParallel rfl rfl rfl (fun hc14 => ?_) (fun hc14 => ?_)
              · (try dsimp only at hc14)
                (exfalso; simp_all; done)
              · (try dsimp only at hc14)
                refine gm_p k_Md_canParallel rfl rfl ?_
                refine gm_p k_Md_canParallel rfl rfl ?_
                refine gm_if k_Md_canParallel rfl rfl rfl (fun hc20 => ?_) (fun hc20 => ?_)
                · (try dsimp only at hc20)
                  refine gm_p k_Md_canParallel rfl rfl ?_
                  refine gm_p k_Md_canParallel rfl rfl ?_
                  refine gm_p k_Md_canParallel rfl rfl ?_
                  refine gm_p k_Md_canParallel rfl rfl ?_
                  refine gm_ivE (M' := m_Md_can) (As := [.int k, .int res, .int sure]) k_Md_canParallel rfl rfl rfl rfl rfl rfl (Nat.le_of_ble_eq_true rfl) (ih.2 _ _ _ _ _ _ (by omega) hT hS hm) ?_
                  refine gm_is (M' := m_Md_beside) (As := [.long _, .long _]) k_Md_canParallel rfl rfl rfl rfl rfl rfl (Nat.le_of_ble_eq_true rfl) (fun h => c_Md_beside _ _ h) ?_
                  refine gm_p k_Md_canParallel rfl rfl ?_
                  refine gm_p k_Md_canParallel rfl rfl ?_
                  refine gm_g k_Md_canParallel rfl rfl rfl rfl ?_
                  refine gm_p k_Md_canParallel rfl rfl ?_
                  refine gm_ld k_Md_canParallel rfl rfl (gi_in (by assumption)) (by decide) ?_
                  refine gm_p k_Md_canParallel rfl rfl ?_
                  refine gm_j k_Md_canParallel rfl rfl ?_
                  exact ihn _ _ hk
                · (try dsimp only at hc20)
                  (exfalso; simp_all; done)
            · rw [if_neg g1] at hk
              cases hk
        · rw [if_neg h2] at hk
          by_cases g1 : gi k 2600 = true
          · rw [if_pos g1] at hk
            by_cases h4 : σ.2 25 k.toNatClampNeg &&& σ.1 39 = 0
            · rw [if_pos h4] at hk
              (try dsimp only at hk); rw [if_pos g1] at hk
              refine gm_p k_Md_canParallel rfl rfl ?_
              refine gm_p k_Md_canParallel rfl rfl ?_
              refine gm_ic k_Md_canParallel rfl rfl rfl (fun hc14 => ?_) (fun hc14 => ?_)
              · (try dsimp only at hc14)
                (exfalso; simp_all; done)
              · (try dsimp only at hc14)
                refine gm_p k_Md_canParallel rfl rfl ?_
                refine gm_p k_Md_canParallel rfl rfl ?_
                refine gm_if k_Md_canParallel rfl rfl rfl (fun hc20 => ?_) (fun hc20 => ?_)
                · (try dsimp only at hc20)
                  (exfalso; simp_all; done)
                · (try dsimp only at hc20)
                  refine gm_p k_Md_canParallel rfl rfl ?_
                  refine gm_p k_Md_canParallel rfl rfl ?_
                  refine gm_ivE (M' := m_Md_isWithin) (As := [.int _]) k_Md_canParallel rfl rfl rfl rfl rfl rfl (Nat.le_of_ble_eq_true rfl) (c_Md_isWithin (by assumption)) ?_
                  refine gm_if k_Md_canParallel rfl rfl rfl (fun hc29 => ?_) (fun hc29 => ?_)
                  · (try dsimp only at hc29)
                    (exfalso; simp_all; done)
                  · (try dsimp only at hc29)
                    refine gm_p k_Md_canParallel rfl rfl ?_
                    refine gm_j k_Md_canParallel rfl rfl ?_
                    refine gm_is (M' := m_Md_beside) (As := [.long _, .long _]) k_Md_canParallel rfl rfl rfl rfl rfl rfl (Nat.le_of_ble_eq_true rfl) (fun h => c_Md_beside _ _ h) ?_
                    refine gm_p k_Md_canParallel rfl rfl ?_
                    refine gm_p k_Md_canParallel rfl rfl ?_
                    refine gm_g k_Md_canParallel rfl rfl rfl rfl ?_
                    refine gm_p k_Md_canParallel rfl rfl ?_
                    refine gm_ld k_Md_canParallel rfl rfl (gi_in (by assumption)) (by decide) ?_
                    refine gm_p k_Md_canParallel rfl rfl ?_
                    refine gm_j k_Md_canParallel rfl rfl ?_
                    exact ihn _ _ hk
            · rw [if_neg h4] at hk
              cases hm : f true k res sure (σ.2 38) with
              | none =>
                rw [hm] at hk
                cases hk
              | some m =>
                rw [hm] at hk
                try dsimp only at hk
                rw [if_pos g1] at hk
                refine gm_p k_Md_canParallel rfl rfl ?_
                refine gm_p k_Md_canParallel rfl rfl ?_
                refine gm_ic k_Md_canParallel rfl rfl rfl (fun hc14 => ?_) (fun hc14 => ?_)
                · (try dsimp only at hc14)
                  (exfalso; simp_all; done)
                · (try dsimp only at hc14)
                  refine gm_p k_Md_canParallel rfl rfl ?_
                  refine gm_p k_Md_canParallel rfl rfl ?_
                  refine gm_if k_Md_canParallel rfl rfl rfl (fun hc20 => ?_) (fun hc20 => ?_)
                  · (try dsimp only at hc20)
                    (exfalso; simp_all; done)
                  · (try dsimp only at hc20)
                    refine gm_p k_Md_canParallel rfl rfl ?_
                    refine gm_p k_Md_canParallel rfl rfl ?_
                    refine gm_ivE (M' := m_Md_isWithin) (As := [.int _]) k_Md_canParallel rfl rfl rfl rfl rfl rfl (Nat.le_of_ble_eq_true rfl) (c_Md_isWithin (by assumption)) ?_
                    refine gm_if k_Md_canParallel rfl rfl rfl (fun hc29 => ?_) (fun hc29 => ?_)
                    · (try dsimp only at hc29)
                      refine gm_p k_Md_canParallel rfl rfl ?_
                      refine gm_p k_Md_canParallel rfl rfl ?_
                      refine gm_p k_Md_canParallel rfl rfl ?_
                      refine gm_p k_Md_canParallel rfl rfl ?_
                      refine gm_ivE (M' := m_Md_can) (As := [.int k, .int res, .int sure]) k_Md_canParallel rfl rfl rfl rfl rfl rfl (Nat.le_of_ble_eq_true rfl) (ih.2 _ _ _ _ _ _ (by omega) hT hS hm) ?_
                      refine gm_is (M' := m_Md_beside) (As := [.long _, .long _]) k_Md_canParallel rfl rfl rfl rfl rfl rfl (Nat.le_of_ble_eq_true rfl) (fun h => c_Md_beside _ _ h) ?_
                      refine gm_p k_Md_canParallel rfl rfl ?_
                      refine gm_p k_Md_canParallel rfl rfl ?_
                      refine gm_g k_Md_canParallel rfl rfl rfl rfl ?_
                      refine gm_p k_Md_canParallel rfl rfl ?_
                      refine gm_ld k_Md_canParallel rfl rfl (gi_in (by assumption)) (by decide) ?_
                      refine gm_p k_Md_canParallel rfl rfl ?_
                      refine gm_j k_Md_canParallel rfl rfl ?_
                      exact ihn _ _ hk
                    · (try dsimp only at hc29)
                      (exfalso; simp_all; done)
          · rw [if_neg g1] at hk
            cases hk
  refine gm_meth (k := 3) (L := [some (.ref a), some (.int p), some (.int res), some (.int sure), none, none, none]) pn_Md rfl (Nat.le_of_ble_eq_true rfl) ?_
  unfold mw_cp at hp
  rw [← hT 23 (by decide) (by decide)] at hp
  by_cases g1 : gi p 2600 = true
  · rw [if_pos g1] at hp
    rw [show mw_pl (fun q => f true q res sure (σ.2 38)) T = mw_pl (fun q => f true q res sure (σ.2 38)) σ.2 from congrFun (mw_pl_c hT) _, ← hS] at hp
    refine gm_p k_Md_canParallel rfl rfl ?_
    refine gm_p k_Md_canParallel rfl rfl ?_
    refine gm_p k_Md_canParallel rfl rfl ?_
    refine gm_g k_Md_canParallel rfl rfl rfl rfl ?_
    refine gm_p k_Md_canParallel rfl rfl ?_
    refine gm_ld k_Md_canParallel rfl rfl (gi_in (by assumption)) (by decide) ?_
    refine gm_p k_Md_canParallel rfl rfl ?_
    exact loop _ _ _ hp
  · rw [if_neg g1] at hp
    cases hp
theorem c_Md_canSequence (ih : mw_IH l F a A D T S f) {dd : Nat} {p res sure : Int32} {v : Int64} (hD : D + 1 ≤ dd) (h3 : 4 ≤ dd) (hT : ∀ k, 20 ≤ k → k ≤ 25 → σ.2 k = T k) (hS : σ.1 39 = S) (hp : mw_cq T S f p res sure (σ.2 38) = some v) : gm_Has l F dd m_Md_canSequence a A [.int p, .int res, .int sure] σ (fun w σ' => w = some (.long v) ∧ σ' = σ) := by
  obtain ⟨d, rfl⟩ : ∃ d, dd = d + 4 := ⟨dd - 4, by omega⟩
  have loop : ∀ (n : Nat) (k : Int32) (al : Int64) (s : Int32), mw_cs f σ.2 (σ.2 38) n k al s = some v → gm_Go l F (d + 4) m_Md_canSequence a A 52 ([some (.ref a), some (.int p), some (.int res), some (.int sure), some (.int k), some (.long al), none, some (.int s)]) [] σ (fun w σ' => w = some (.long v) ∧ σ' = σ) := by
    intro n
    induction n with
    | zero => intro k al s hk; cases hk
    | succ n ihn =>
      intro k al s hk
      unfold mw_cs at hk
      try dsimp only at hk
      by_cases h1 : k = -1
      · rw [if_pos h1] at hk
        cases hk
        refine gm_p k_Md_canSequence rfl rfl ?_
        refine gm_p k_Md_canSequence rfl rfl ?_
        refine gm_ic k_Md_canSequence rfl rfl rfl (fun hc55 => ?_) (fun hc55 => ?_)
        · (try dsimp only at hc55)
          refine gm_p k_Md_canSequence rfl rfl ?_
          exact gm_ret (v := some (.long _)) k_Md_canSequence rfl rfl trivial rfl ⟨rfl, rfl⟩
        · (try dsimp only at hc55)
          (exfalso; simp_all; done)
      · rw [if_neg h1] at hk
        by_cases h2 : q_hasC al 0 = 0
        · rw [if_pos h2] at hk
          cases hk
          refine gm_p k_Md_canSequence rfl rfl ?_
          refine gm_p k_Md_canSequence rfl rfl ?_
          refine gm_ic k_Md_canSequence rfl rfl rfl (fun hc55 => ?_) (fun hc55 => ?_)
          · (try dsimp only at hc55)
            (exfalso; simp_all; done)
          · (try dsimp only at hc55)
            refine gm_p k_Md_canSequence rfl rfl ?_
            refine gm_p k_Md_canSequence rfl rfl ?_
            refine gm_is (M' := m_Md_hasCode) (As := [.long _, .int 0]) k_Md_canSequence rfl rfl rfl rfl rfl rfl (Nat.le_of_ble_eq_true rfl) (fun h => c_Md_hasCode _ _ h) ?_
            refine gm_if k_Md_canSequence rfl rfl rfl (fun hc64 => ?_) (fun hc64 => ?_)
            · (try dsimp only at hc64)
              refine gm_p k_Md_canSequence rfl rfl ?_
              exact gm_ret (v := some (.long _)) k_Md_canSequence rfl rfl trivial rfl ⟨rfl, rfl⟩
            · (try dsimp only at hc64)
              (exfalso; simp_all; done)
        · rw [if_neg h2] at hk
          cases hm : f true k 0 s (σ.2 38) with
          | none =>
            rw [hm] at hk
            cases hk
          | some m =>
            rw [hm] at hk
            try dsimp only at hk
            by_cases h4 : s = 0
            · rw [if_pos h4] at hk
              by_cases g1 : gi k 2600 = true
              · rw [if_pos g1] at hk
                refine gm_p k_Md_canSequence rfl rfl ?_
                refine gm_p k_Md_canSequence rfl rfl ?_
                refine gm_ic k_Md_canSequence rfl rfl rfl (fun hc55 => ?_) (fun hc55 => ?_)
                · (try dsimp only at hc55)
                  (exfalso; simp_all; done)
                · (try dsimp only at hc55)
                  refine gm_p k_Md_canSequence rfl rfl ?_
                  refine gm_p k_Md_canSequence rfl rfl ?_
                  refine gm_is (M' := m_Md_hasCode) (As := [.long _, .int 0]) k_Md_canSequence rfl rfl rfl rfl rfl rfl (Nat.le_of_ble_eq_true rfl) (fun h => c_Md_hasCode _ _ h) ?_
                  refine gm_if k_Md_canSequence rfl rfl rfl (fun hc64 => ?_) (fun hc64 => ?_)
                  · (try dsimp only at hc64)
                    (exfalso; simp_all; done)
                  · (try dsimp only at hc64)
                    refine gm_p k_Md_canSequence rfl rfl ?_
                    refine gm_p k_Md_canSequence rfl rfl ?_
                    refine gm_p k_Md_canSequence rfl rfl ?_
                    refine gm_p k_Md_canSequence rfl rfl ?_
                    refine gm_p k_Md_canSequence rfl rfl ?_
                    refine gm_ivE (M' := m_Md_can) (As := [.int k, .int 0, .int s]) k_Md_canSequence rfl rfl rfl rfl rfl rfl (Nat.le_of_ble_eq_true rfl) (ih.2 _ _ _ _ _ _ (by omega) hT hS hm) ?_
                    refine gm_is (M' := m_Md_behind) (As := [.long _, .long _]) k_Md_canSequence rfl rfl rfl rfl rfl rfl (Nat.le_of_ble_eq_true rfl) (fun h => c_Md_behind _ _ h) ?_
                    refine gm_p k_Md_canSequence rfl rfl ?_
                    refine gm_p k_Md_canSequence rfl rfl ?_
                    refine gm_if k_Md_canSequence rfl rfl rfl (fun hc85 => ?_) (fun hc85 => ?_)
                    · (try dsimp only at hc85)
                      refine gm_p k_Md_canSequence rfl rfl ?_
                      refine gm_p k_Md_canSequence rfl rfl ?_
                      refine gm_p k_Md_canSequence rfl rfl ?_
                      refine gm_g k_Md_canSequence rfl rfl rfl rfl ?_
                      refine gm_p k_Md_canSequence rfl rfl ?_
                      refine gm_ld k_Md_canSequence rfl rfl (gi_in (by assumption)) (by decide) ?_
                      refine gm_p k_Md_canSequence rfl rfl ?_
                      refine gm_j k_Md_canSequence rfl rfl ?_
                      exact ihn _ _ _ hk
                    · (try dsimp only at hc85)
                      (exfalso; simp_all; done)
              · rw [if_neg g1] at hk
                cases hk
            · rw [if_neg h4] at hk
              cases hz : f false k 0 0 (σ.2 38) with
              | none =>
                rw [hz] at hk
                cases hk
              | some z =>
                rw [hz] at hk
                try dsimp only at hk
                by_cases g1 : gi k 2600 = true
                · rw [if_pos g1] at hk
                  by_cases h5 : q_hasC z 0 = 0
                  · rw [if_pos h5] at hk
                    refine gm_p k_Md_canSequence rfl rfl ?_
                    refine gm_p k_Md_canSequence rfl rfl ?_
                    refine gm_ic k_Md_canSequence rfl rfl rfl (fun hc55 => ?_) (fun hc55 => ?_)
                    · (try dsimp only at hc55)
                      (exfalso; simp_all; done)
                    · (try dsimp only at hc55)
                      refine gm_p k_Md_canSequence rfl rfl ?_
                      refine gm_p k_Md_canSequence rfl rfl ?_
                      refine gm_is (M' := m_Md_hasCode) (As := [.long _, .int 0]) k_Md_canSequence rfl rfl rfl rfl rfl rfl (Nat.le_of_ble_eq_true rfl) (fun h => c_Md_hasCode _ _ h) ?_
                      refine gm_if k_Md_canSequence rfl rfl rfl (fun hc64 => ?_) (fun hc64 => ?_)
                      · (try dsimp only at hc64)
                        (exfalso; simp_all; done)
                      · (try dsimp only at hc64)
                        refine gm_p k_Md_canSequence rfl rfl ?_
                        refine gm_p k_Md_canSequence rfl rfl ?_
                        refine gm_p k_Md_canSequence rfl rfl ?_
                        refine gm_p k_Md_canSequence rfl rfl ?_
                        refine gm_p k_Md_canSequence rfl rfl ?_
                        refine gm_ivE (M' := m_Md_can) (As := [.int k, .int 0, .int s]) k_Md_canSequence rfl rfl rfl rfl rfl rfl (Nat.le_of_ble_eq_true rfl) (ih.2 _ _ _ _ _ _ (by omega) hT hS hm) ?_
                        refine gm_is (M' := m_Md_behind) (As := [.long _, .long _]) k_Md_canSequence rfl rfl rfl rfl rfl rfl (Nat.le_of_ble_eq_true rfl) (fun h => c_Md_behind _ _ h) ?_
                        refine gm_p k_Md_canSequence rfl rfl ?_
                        refine gm_p k_Md_canSequence rfl rfl ?_
                        refine gm_if k_Md_canSequence rfl rfl rfl (fun hc85 => ?_) (fun hc85 => ?_)
                        · (try dsimp only at hc85)
                          (exfalso; simp_all; done)
                        · (try dsimp only at hc85)
                          refine gm_p k_Md_canSequence rfl rfl ?_
                          refine gm_p k_Md_canSequence rfl rfl ?_
                          refine gm_p k_Md_canSequence rfl rfl ?_
                          refine gm_ivE (M' := m_Md_must) (As := [.int k, .int 0]) k_Md_canSequence rfl rfl rfl rfl rfl rfl (Nat.le_of_ble_eq_true rfl) (ih.1 _ _ _ _ _ (by omega) hT hS hz) ?_
                          refine gm_p k_Md_canSequence rfl rfl ?_
                          refine gm_is (M' := m_Md_hasCode) (As := [.long _, .int 0]) k_Md_canSequence rfl rfl rfl rfl rfl rfl (Nat.le_of_ble_eq_true rfl) (fun h => c_Md_hasCode _ _ h) ?_
                          refine gm_if k_Md_canSequence rfl rfl rfl (fun hc99 => ?_) (fun hc99 => ?_)
                          · (try dsimp only at hc99)
                            refine gm_p k_Md_canSequence rfl rfl ?_
                            refine gm_p k_Md_canSequence rfl rfl ?_
                            refine gm_p k_Md_canSequence rfl rfl ?_
                            refine gm_g k_Md_canSequence rfl rfl rfl rfl ?_
                            refine gm_p k_Md_canSequence rfl rfl ?_
                            refine gm_ld k_Md_canSequence rfl rfl (gi_in (by assumption)) (by decide) ?_
                            refine gm_p k_Md_canSequence rfl rfl ?_
                            refine gm_j k_Md_canSequence rfl rfl ?_
                            exact ihn _ _ _ hk
                          · (try dsimp only at hc99)
                            (exfalso; simp_all; done)
                  · rw [if_neg h5] at hk
                    refine gm_p k_Md_canSequence rfl rfl ?_
                    refine gm_p k_Md_canSequence rfl rfl ?_
                    refine gm_ic k_Md_canSequence rfl rfl rfl (fun hc55 => ?_) (fun hc55 => ?_)
                    · (try dsimp only at hc55)
                      (exfalso; simp_all; done)
                    · (try dsimp only at hc55)
                      refine gm_p k_Md_canSequence rfl rfl ?_
                      refine gm_p k_Md_canSequence rfl rfl ?_
                      refine gm_is (M' := m_Md_hasCode) (As := [.long _, .int 0]) k_Md_canSequence rfl rfl rfl rfl rfl rfl (Nat.le_of_ble_eq_true rfl) (fun h => c_Md_hasCode _ _ h) ?_
                      refine gm_if k_Md_canSequence rfl rfl rfl (fun hc64 => ?_) (fun hc64 => ?_)
                      · (try dsimp only at hc64)
                        (exfalso; simp_all; done)
                      · (try dsimp only at hc64)
                        refine gm_p k_Md_canSequence rfl rfl ?_
                        refine gm_p k_Md_canSequence rfl rfl ?_
                        refine gm_p k_Md_canSequence rfl rfl ?_
                        refine gm_p k_Md_canSequence rfl rfl ?_
                        refine gm_p k_Md_canSequence rfl rfl ?_
                        refine gm_ivE (M' := m_Md_can) (As := [.int k, .int 0, .int s]) k_Md_canSequence rfl rfl rfl rfl rfl rfl (Nat.le_of_ble_eq_true rfl) (ih.2 _ _ _ _ _ _ (by omega) hT hS hm) ?_
                        refine gm_is (M' := m_Md_behind) (As := [.long _, .long _]) k_Md_canSequence rfl rfl rfl rfl rfl rfl (Nat.le_of_ble_eq_true rfl) (fun h => c_Md_behind _ _ h) ?_
                        refine gm_p k_Md_canSequence rfl rfl ?_
                        refine gm_p k_Md_canSequence rfl rfl ?_
                        refine gm_if k_Md_canSequence rfl rfl rfl (fun hc85 => ?_) (fun hc85 => ?_)
                        · (try dsimp only at hc85)
                          (exfalso; simp_all; done)
                        · (try dsimp only at hc85)
                          refine gm_p k_Md_canSequence rfl rfl ?_
                          refine gm_p k_Md_canSequence rfl rfl ?_
                          refine gm_p k_Md_canSequence rfl rfl ?_
                          refine gm_ivE (M' := m_Md_must) (As := [.int k, .int 0]) k_Md_canSequence rfl rfl rfl rfl rfl rfl (Nat.le_of_ble_eq_true rfl) (ih.1 _ _ _ _ _ (by omega) hT hS hz) ?_
                          refine gm_p k_Md_canSequence rfl rfl ?_
                          refine gm_is (M' := m_Md_hasCode) (As := [.long _, .int 0]) k_Md_canSequence rfl rfl rfl rfl rfl rfl (Nat.le_of_ble_eq_true rfl) (fun h => c_Md_hasCode _ _ h) ?_
                          refine gm_if k_Md_canSequence rfl rfl rfl (fun hc99 => ?_) (fun hc99 => ?_)
                          · (try dsimp only at hc99)
                            (exfalso; simp_all; done)
                          · (try dsimp only at hc99)
                            refine gm_p k_Md_canSequence rfl rfl ?_
                            refine gm_j k_Md_canSequence rfl rfl ?_
                            refine gm_p k_Md_canSequence rfl rfl ?_
                            refine gm_p k_Md_canSequence rfl rfl ?_
                            refine gm_g k_Md_canSequence rfl rfl rfl rfl ?_
                            refine gm_p k_Md_canSequence rfl rfl ?_
                            refine gm_ld k_Md_canSequence rfl rfl (gi_in (by assumption)) (by decide) ?_
                            refine gm_p k_Md_canSequence rfl rfl ?_
                            refine gm_j k_Md_canSequence rfl rfl ?_
                            exact ihn _ _ _ hk
                · rw [if_neg g1] at hk
                  cases hk
  refine gm_meth (k := 4) (L := [some (.ref a), some (.int p), some (.int res), some (.int sure), none, none, none, none]) pn_Md rfl (Nat.le_of_ble_eq_true rfl) ?_
  unfold mw_cq at hp
  rw [mw_fo_c hT, ← hT 23 (by decide) (by decide), ← hT 24 (by decide) (by decide), show mw_cs f T = mw_cs f σ.2 from congrFun (mw_cs_c hT) _] at hp
  by_cases g1 : gi p 2600 = true
  · rw [if_pos g1] at hp
    cases hk : mw_fo σ.2 S res 2601 (σ.2 23 p.toNatClampNeg) with
    | none =>
      rw [hk] at hp
      cases hp
    | some k =>
      rw [hk] at hp
      try dsimp only at hp
      cases hx : f true k res sure (σ.2 38) with
      | none =>
        rw [hx] at hp
        cases hp
      | some x =>
        rw [hx] at hp
        try dsimp only at hp
        by_cases h4 : sure = 0
        · rw [if_pos h4] at hp
          by_cases g2 : gi k 2600 = true
          · rw [if_pos g2] at hp
            rw [← hS] at hk
            refine gm_p k_Md_canSequence rfl rfl ?_
            refine gm_p k_Md_canSequence rfl rfl ?_
            refine gm_p k_Md_canSequence rfl rfl ?_
            refine gm_ivE (M' := m_Md_firstOf) (As := [.int p, .int res]) k_Md_canSequence rfl rfl rfl rfl rfl rfl (Nat.le_of_ble_eq_true rfl) (c_Md_firstOf g1 hk) ?_
            refine gm_p k_Md_canSequence rfl rfl ?_
            refine gm_p k_Md_canSequence rfl rfl ?_
            refine gm_p k_Md_canSequence rfl rfl ?_
            refine gm_p k_Md_canSequence rfl rfl ?_
            refine gm_p k_Md_canSequence rfl rfl ?_
            refine gm_ivE (M' := m_Md_can) (As := [.int k, .int res, .int sure]) k_Md_canSequence rfl rfl rfl rfl rfl rfl (Nat.le_of_ble_eq_true rfl) (ih.2 _ _ _ _ _ _ (by omega) hT hS hx) ?_
            refine gm_p k_Md_canSequence rfl rfl ?_
            refine gm_p k_Md_canSequence rfl rfl ?_
            refine gm_if k_Md_canSequence rfl rfl rfl (fun hc19 => ?_) (fun hc19 => ?_)
            · (try dsimp only at hc19)
              refine gm_p k_Md_canSequence rfl rfl ?_
              refine gm_p k_Md_canSequence rfl rfl ?_
              refine gm_p k_Md_canSequence rfl rfl ?_
              refine gm_g k_Md_canSequence rfl rfl rfl rfl ?_
              refine gm_p k_Md_canSequence rfl rfl ?_
              refine gm_ld k_Md_canSequence rfl rfl (gi_in (by assumption)) (by decide) ?_
              refine gm_p k_Md_canSequence rfl rfl ?_
              exact loop _ _ _ _ hp
            · (try dsimp only at hc19)
              (exfalso; simp_all; done)
          · rw [if_neg g2] at hp
            cases hp
        · rw [if_neg h4] at hp
          cases hz : f false k res 0 (σ.2 38) with
          | none =>
            rw [hz] at hp
            cases hp
          | some z =>
            rw [hz] at hp
            try dsimp only at hp
            by_cases g2 : gi k 2600 = true
            · rw [if_pos g2] at hp
              by_cases h5 : q_hasC z 0 = 0
              · rw [if_pos h5] at hp
                rw [← hS] at hk
                refine gm_p k_Md_canSequence rfl rfl ?_
                refine gm_p k_Md_canSequence rfl rfl ?_
                refine gm_p k_Md_canSequence rfl rfl ?_
                refine gm_ivE (M' := m_Md_firstOf) (As := [.int p, .int res]) k_Md_canSequence rfl rfl rfl rfl rfl rfl (Nat.le_of_ble_eq_true rfl) (c_Md_firstOf g1 hk) ?_
                refine gm_p k_Md_canSequence rfl rfl ?_
                refine gm_p k_Md_canSequence rfl rfl ?_
                refine gm_p k_Md_canSequence rfl rfl ?_
                refine gm_p k_Md_canSequence rfl rfl ?_
                refine gm_p k_Md_canSequence rfl rfl ?_
                refine gm_ivE (M' := m_Md_can) (As := [.int k, .int res, .int sure]) k_Md_canSequence rfl rfl rfl rfl rfl rfl (Nat.le_of_ble_eq_true rfl) (ih.2 _ _ _ _ _ _ (by omega) hT hS hx) ?_
                refine gm_p k_Md_canSequence rfl rfl ?_
                refine gm_p k_Md_canSequence rfl rfl ?_
                refine gm_if k_Md_canSequence rfl rfl rfl (fun hc19 => ?_) (fun hc19 => ?_)
                · (try dsimp only at hc19)
                  (exfalso; simp_all; done)
                · (try dsimp only at hc19)
                  refine gm_p k_Md_canSequence rfl rfl ?_
                  refine gm_p k_Md_canSequence rfl rfl ?_
                  refine gm_p k_Md_canSequence rfl rfl ?_
                  refine gm_ivE (M' := m_Md_must) (As := [.int k, .int res]) k_Md_canSequence rfl rfl rfl rfl rfl rfl (Nat.le_of_ble_eq_true rfl) (ih.1 _ _ _ _ _ (by omega) hT hS hz) ?_
                  refine gm_p k_Md_canSequence rfl rfl ?_
                  refine gm_is (M' := m_Md_hasCode) (As := [.long _, .int 0]) k_Md_canSequence rfl rfl rfl rfl rfl rfl (Nat.le_of_ble_eq_true rfl) (fun h => c_Md_hasCode _ _ h) ?_
                  refine gm_if k_Md_canSequence rfl rfl rfl (fun hc33 => ?_) (fun hc33 => ?_)
                  · (try dsimp only at hc33)
                    refine gm_p k_Md_canSequence rfl rfl ?_
                    refine gm_p k_Md_canSequence rfl rfl ?_
                    refine gm_p k_Md_canSequence rfl rfl ?_
                    refine gm_g k_Md_canSequence rfl rfl rfl rfl ?_
                    refine gm_p k_Md_canSequence rfl rfl ?_
                    refine gm_ld k_Md_canSequence rfl rfl (gi_in (by assumption)) (by decide) ?_
                    refine gm_p k_Md_canSequence rfl rfl ?_
                    exact loop _ _ _ _ hp
                  · (try dsimp only at hc33)
                    (exfalso; simp_all; done)
              · rw [if_neg h5] at hp
                rw [← hS] at hk
                refine gm_p k_Md_canSequence rfl rfl ?_
                refine gm_p k_Md_canSequence rfl rfl ?_
                refine gm_p k_Md_canSequence rfl rfl ?_
                refine gm_ivE (M' := m_Md_firstOf) (As := [.int p, .int res]) k_Md_canSequence rfl rfl rfl rfl rfl rfl (Nat.le_of_ble_eq_true rfl) (c_Md_firstOf g1 hk) ?_
                refine gm_p k_Md_canSequence rfl rfl ?_
                refine gm_p k_Md_canSequence rfl rfl ?_
                refine gm_p k_Md_canSequence rfl rfl ?_
                refine gm_p k_Md_canSequence rfl rfl ?_
                refine gm_p k_Md_canSequence rfl rfl ?_
                refine gm_ivE (M' := m_Md_can) (As := [.int k, .int res, .int sure]) k_Md_canSequence rfl rfl rfl rfl rfl rfl (Nat.le_of_ble_eq_true rfl) (ih.2 _ _ _ _ _ _ (by omega) hT hS hx) ?_
                refine gm_p k_Md_canSequence rfl rfl ?_
                refine gm_p k_Md_canSequence rfl rfl ?_
                refine gm_if k_Md_canSequence rfl rfl rfl (fun hc19 => ?_) (fun hc19 => ?_)
                · (try dsimp only at hc19)
                  (exfalso; simp_all; done)
                · (try dsimp only at hc19)
                  refine gm_p k_Md_canSequence rfl rfl ?_
                  refine gm_p k_Md_canSequence rfl rfl ?_
                  refine gm_p k_Md_canSequence rfl rfl ?_
                  refine gm_ivE (M' := m_Md_must) (As := [.int k, .int res]) k_Md_canSequence rfl rfl rfl rfl rfl rfl (Nat.le_of_ble_eq_true rfl) (ih.1 _ _ _ _ _ (by omega) hT hS hz) ?_
                  refine gm_p k_Md_canSequence rfl rfl ?_
                  refine gm_is (M' := m_Md_hasCode) (As := [.long _, .int 0]) k_Md_canSequence rfl rfl rfl rfl rfl rfl (Nat.le_of_ble_eq_true rfl) (fun h => c_Md_hasCode _ _ h) ?_
                  refine gm_if k_Md_canSequence rfl rfl rfl (fun hc33 => ?_) (fun hc33 => ?_)
                  · (try dsimp only at hc33)
                    (exfalso; simp_all; done)
                  · (try dsimp only at hc33)
                    refine gm_p k_Md_canSequence rfl rfl ?_
                    refine gm_j k_Md_canSequence rfl rfl ?_
                    refine gm_p k_Md_canSequence rfl rfl ?_
                    refine gm_p k_Md_canSequence rfl rfl ?_
                    refine gm_g k_Md_canSequence rfl rfl rfl rfl ?_
                    refine gm_p k_Md_canSequence rfl rfl ?_
                    refine gm_ld k_Md_canSequence rfl rfl (gi_in (by assumption)) (by decide) ?_
                    refine gm_p k_Md_canSequence rfl rfl ?_
                    exact loop _ _ _ _ hp
            · rw [if_neg g2] at hp
              cases hp
  · rw [if_neg g1] at hp
    cases hp
theorem c_Md_canLocal (ih : mw_IH l F a A D T S f) {dd : Nat} {p res sure : Int32} {v : Int64} (hD : D + 2 ≤ dd) (h3 : 5 ≤ dd) (hT : ∀ k, 20 ≤ k → k ≤ 25 → σ.2 k = T k) (hS : σ.1 39 = S) (hp : mw_cc T f p res sure (σ.2 38) = some v) : gm_Has l F dd m_Md_canLocal a A [.int p, .int res, .int sure] σ (fun w σ' => w = some (.long v) ∧ σ' = σ) := by
  obtain ⟨d, rfl⟩ : ∃ d, dd = d + 5 := ⟨dd - 5, by omega⟩
  refine gm_meth (k := 4) (L := [some (.ref a), some (.int p), some (.int res), some (.int sure), none, none, none, none]) pn_Md rfl (Nat.le_of_ble_eq_true rfl) ?_
  unfold mw_cc at hp
  by_cases h1 : sure = 0
  · rw [if_pos h1] at hp
    rw [← hT 21 (by decide) (by decide), ← hT 23 (by decide) (by decide)] at hp
    by_cases g1 : gi p 2600 = true
    · rw [if_pos g1] at hp
      by_cases g2 : gi (σ.2 21 p.toNatClampNeg) 26 = true
      · rw [if_pos g2] at hp
        cases hy : f true (σ.2 23 p.toNatClampNeg) res 0 (upd (σ.2 38) (σ.2 21 p.toNatClampNeg).toNatClampNeg 0) with
        | none =>
          rw [hy] at hp
          cases hp
        | some y =>
          rw [hy] at hp
          try dsimp only at hp
          by_cases h2 : q_hasS y (σ.2 21 p.toNatClampNeg) = 0
          · rw [if_pos h2] at hp
            cases hx : f true (σ.2 23 p.toNatClampNeg) res sure (upd (σ.2 38) (σ.2 21 p.toNatClampNeg).toNatClampNeg 2) with
            | none =>
              rw [hx] at hp
              cases hp
            | some x =>
              rw [hx] at hp
              try dsimp only at hp
              cases hp
              refine gm_p k_Md_canLocal rfl rfl ?_
              refine gm_g k_Md_canLocal rfl rfl rfl rfl ?_
              refine gm_p k_Md_canLocal rfl rfl ?_
              refine gm_ld k_Md_canLocal rfl rfl (gi_in (by assumption)) (by decide) ?_
              refine gm_p k_Md_canLocal rfl rfl ?_
              refine gm_p k_Md_canLocal rfl rfl ?_
              refine gm_g k_Md_canLocal rfl rfl rfl rfl ?_
              refine gm_p k_Md_canLocal rfl rfl ?_
              refine gm_ld k_Md_canLocal rfl rfl (gi_in (by assumption)) (by decide) ?_
              refine gm_p k_Md_canLocal rfl rfl ?_
              refine gm_p k_Md_canLocal rfl rfl ?_
              refine gm_if k_Md_canLocal rfl rfl rfl (fun hc18 => ?_) (fun hc18 => ?_)
              · (try dsimp only at hc18)
                refine gm_p k_Md_canLocal rfl rfl ?_
                refine gm_g k_Md_canLocal rfl rfl rfl rfl ?_
                refine gm_p k_Md_canLocal rfl rfl ?_
                refine gm_p k_Md_canLocal rfl rfl ?_
                refine gm_sto k_Md_canLocal rfl rfl (gi_in (by assumption)) (by decide) ?_
                simp only [gm_up_same, gm_up_up, upd_upd]
                refine gm_p k_Md_canLocal rfl rfl ?_
                refine gm_p k_Md_canLocal rfl rfl ?_
                refine gm_g k_Md_canLocal rfl rfl rfl rfl ?_
                refine gm_p k_Md_canLocal rfl rfl ?_
                refine gm_ld k_Md_canLocal rfl rfl (gi_in (by assumption)) (by decide) ?_
                refine gm_p k_Md_canLocal rfl rfl ?_
                refine gm_p k_Md_canLocal rfl rfl ?_
                refine gm_ivE (M' := m_Md_can) (As := [.int (σ.2 23 p.toNatClampNeg), .int res, .int 0]) k_Md_canLocal rfl rfl rfl rfl rfl rfl (Nat.le_of_ble_eq_true rfl) (ih.2 _ _ _ _ _ _ (by omega) (mw_hT hT) hS hy) ?_
                refine gm_p k_Md_canLocal rfl rfl ?_
                refine gm_is (M' := m_Md_hasSignal) (As := [.long _, .int _]) k_Md_canLocal rfl rfl rfl rfl rfl rfl (Nat.le_of_ble_eq_true rfl) (fun h => c_Md_hasSignalQ _ _ h) ?_
                refine gm_p k_Md_canLocal rfl rfl ?_
                refine gm_p k_Md_canLocal rfl rfl ?_
                refine gm_g k_Md_canLocal rfl rfl rfl rfl ?_
                refine gm_p k_Md_canLocal rfl rfl ?_
                refine gm_p k_Md_canLocal rfl rfl ?_
                refine gm_if k_Md_canLocal rfl rfl rfl (fun hc65 => ?_) (fun hc65 => ?_)
                · (try dsimp only at hc65)
                  refine gm_p k_Md_canLocal rfl rfl ?_
                  refine gm_sto k_Md_canLocal rfl rfl (gi_in (by assumption)) (by decide) ?_
                  simp only [gm_up_same, gm_up_up, upd_upd]
                  refine gm_p k_Md_canLocal rfl rfl ?_
                  refine gm_p k_Md_canLocal rfl rfl ?_
                  refine gm_g k_Md_canLocal rfl rfl rfl rfl ?_
                  refine gm_p k_Md_canLocal rfl rfl ?_
                  refine gm_ld k_Md_canLocal rfl rfl (gi_in (by assumption)) (by decide) ?_
                  refine gm_p k_Md_canLocal rfl rfl ?_
                  refine gm_p k_Md_canLocal rfl rfl ?_
                  refine gm_ivE (M' := m_Md_can) (As := [.int (σ.2 23 p.toNatClampNeg), .int res, .int sure]) k_Md_canLocal rfl rfl rfl rfl rfl rfl (Nat.le_of_ble_eq_true rfl) (ih.2 _ _ _ _ _ _ (by omega) (mw_hT hT) hS hx) ?_
                  refine gm_p k_Md_canLocal rfl rfl ?_
                  refine gm_is (M' := m_Md_without) (As := [.long _, .int _]) k_Md_canLocal rfl rfl rfl rfl rfl rfl (Nat.le_of_ble_eq_true rfl) (fun h => c_Md_withoutQ _ _ h) ?_
                  refine gm_p k_Md_canLocal rfl rfl ?_
                  refine gm_p k_Md_canLocal rfl rfl ?_
                  refine gm_g k_Md_canLocal rfl rfl rfl rfl ?_
                  refine gm_p k_Md_canLocal rfl rfl ?_
                  refine gm_p k_Md_canLocal rfl rfl ?_
                  refine gm_sto k_Md_canLocal rfl rfl (gi_in (by assumption)) (by decide) ?_
                  simp only [gm_up_same, gm_up_up, upd_upd, upd_self, gm_up_id]
                  refine gm_p k_Md_canLocal rfl rfl ?_
                  exact gm_ret (v := some (.long _)) k_Md_canLocal rfl rfl trivial rfl ⟨rfl, rfl⟩
                · (try dsimp only at hc65)
                  (exfalso; simp_all; done)
              · (try dsimp only at hc18)
                (exfalso; simp_all; done)
          · rw [if_neg h2] at hp
            cases hx : f true (σ.2 23 p.toNatClampNeg) res sure (upd (σ.2 38) (σ.2 21 p.toNatClampNeg).toNatClampNeg 0) with
            | none =>
              rw [hx] at hp
              cases hp
            | some x =>
              rw [hx] at hp
              try dsimp only at hp
              cases hp
              refine gm_p k_Md_canLocal rfl rfl ?_
              refine gm_g k_Md_canLocal rfl rfl rfl rfl ?_
              refine gm_p k_Md_canLocal rfl rfl ?_
              refine gm_ld k_Md_canLocal rfl rfl (gi_in (by assumption)) (by decide) ?_
              refine gm_p k_Md_canLocal rfl rfl ?_
              refine gm_p k_Md_canLocal rfl rfl ?_
              refine gm_g k_Md_canLocal rfl rfl rfl rfl ?_
              refine gm_p k_Md_canLocal rfl rfl ?_
              refine gm_ld k_Md_canLocal rfl rfl (gi_in (by assumption)) (by decide) ?_
              refine gm_p k_Md_canLocal rfl rfl ?_
              refine gm_p k_Md_canLocal rfl rfl ?_
              refine gm_if k_Md_canLocal rfl rfl rfl (fun hc18 => ?_) (fun hc18 => ?_)
              · (try dsimp only at hc18)
                refine gm_p k_Md_canLocal rfl rfl ?_
                refine gm_g k_Md_canLocal rfl rfl rfl rfl ?_
                refine gm_p k_Md_canLocal rfl rfl ?_
                refine gm_p k_Md_canLocal rfl rfl ?_
                refine gm_sto k_Md_canLocal rfl rfl (gi_in (by assumption)) (by decide) ?_
                simp only [gm_up_same, gm_up_up, upd_upd]
                refine gm_p k_Md_canLocal rfl rfl ?_
                refine gm_p k_Md_canLocal rfl rfl ?_
                refine gm_g k_Md_canLocal rfl rfl rfl rfl ?_
                refine gm_p k_Md_canLocal rfl rfl ?_
                refine gm_ld k_Md_canLocal rfl rfl (gi_in (by assumption)) (by decide) ?_
                refine gm_p k_Md_canLocal rfl rfl ?_
                refine gm_p k_Md_canLocal rfl rfl ?_
                refine gm_ivE (M' := m_Md_can) (As := [.int (σ.2 23 p.toNatClampNeg), .int res, .int 0]) k_Md_canLocal rfl rfl rfl rfl rfl rfl (Nat.le_of_ble_eq_true rfl) (ih.2 _ _ _ _ _ _ (by omega) (mw_hT hT) hS hy) ?_
                refine gm_p k_Md_canLocal rfl rfl ?_
                refine gm_is (M' := m_Md_hasSignal) (As := [.long _, .int _]) k_Md_canLocal rfl rfl rfl rfl rfl rfl (Nat.le_of_ble_eq_true rfl) (fun h => c_Md_hasSignalQ _ _ h) ?_
                refine gm_p k_Md_canLocal rfl rfl ?_
                refine gm_p k_Md_canLocal rfl rfl ?_
                refine gm_g k_Md_canLocal rfl rfl rfl rfl ?_
                refine gm_p k_Md_canLocal rfl rfl ?_
                refine gm_p k_Md_canLocal rfl rfl ?_
                refine gm_if k_Md_canLocal rfl rfl rfl (fun hc65 => ?_) (fun hc65 => ?_)
                · (try dsimp only at hc65)
                  (exfalso; simp_all; done)
                · (try dsimp only at hc65)
                  refine gm_p k_Md_canLocal rfl rfl ?_
                  refine gm_j k_Md_canLocal rfl rfl ?_
                  refine gm_sto k_Md_canLocal rfl rfl (gi_in (by assumption)) (by decide) ?_
                  simp only [gm_up_same, gm_up_up, upd_upd]
                  refine gm_p k_Md_canLocal rfl rfl ?_
                  refine gm_p k_Md_canLocal rfl rfl ?_
                  refine gm_g k_Md_canLocal rfl rfl rfl rfl ?_
                  refine gm_p k_Md_canLocal rfl rfl ?_
                  refine gm_ld k_Md_canLocal rfl rfl (gi_in (by assumption)) (by decide) ?_
                  refine gm_p k_Md_canLocal rfl rfl ?_
                  refine gm_p k_Md_canLocal rfl rfl ?_
                  refine gm_ivE (M' := m_Md_can) (As := [.int (σ.2 23 p.toNatClampNeg), .int res, .int sure]) k_Md_canLocal rfl rfl rfl rfl rfl rfl (Nat.le_of_ble_eq_true rfl) (ih.2 _ _ _ _ _ _ (by omega) (mw_hT hT) hS hx) ?_
                  refine gm_p k_Md_canLocal rfl rfl ?_
                  refine gm_is (M' := m_Md_without) (As := [.long _, .int _]) k_Md_canLocal rfl rfl rfl rfl rfl rfl (Nat.le_of_ble_eq_true rfl) (fun h => c_Md_withoutQ _ _ h) ?_
                  refine gm_p k_Md_canLocal rfl rfl ?_
                  refine gm_p k_Md_canLocal rfl rfl ?_
                  refine gm_g k_Md_canLocal rfl rfl rfl rfl ?_
                  refine gm_p k_Md_canLocal rfl rfl ?_
                  refine gm_p k_Md_canLocal rfl rfl ?_
                  refine gm_sto k_Md_canLocal rfl rfl (gi_in (by assumption)) (by decide) ?_
                  simp only [gm_up_same, gm_up_up, upd_upd, upd_self, gm_up_id]
                  refine gm_p k_Md_canLocal rfl rfl ?_
                  exact gm_ret (v := some (.long _)) k_Md_canLocal rfl rfl trivial rfl ⟨rfl, rfl⟩
              · (try dsimp only at hc18)
                (exfalso; simp_all; done)
      · rw [if_neg g2] at hp
        cases hp
    · rw [if_neg g1] at hp
      cases hp
  · rw [if_neg h1] at hp
    cases hk : mw_lk T f p res (σ.2 38) with
    | none =>
      rw [hk] at hp
      cases hp
    | some K1 =>
      rw [hk] at hp
      try dsimp only at hp
      cases hx : f true (T 23 p.toNatClampNeg) res sure K1 with
      | none =>
        rw [hx] at hp
        cases hp
      | some x =>
        rw [hx] at hp
        try dsimp only at hp
        obtain ⟨g1, g2, w, hw⟩ := mw_lk_g hk
        have hlk := c_Md_look ih (dd := d + 4) (by omega) (by omega) hT hS hk
        rw [← hT 21 (by decide) (by decide)] at g2 hw hp
        rw [← hT 23 (by decide) (by decide)] at hx
        subst hw
        cases hp
        refine gm_p k_Md_canLocal rfl rfl ?_
        refine gm_g k_Md_canLocal rfl rfl rfl rfl ?_
        refine gm_p k_Md_canLocal rfl rfl ?_
        refine gm_ld k_Md_canLocal rfl rfl (gi_in (by assumption)) (by decide) ?_
        refine gm_p k_Md_canLocal rfl rfl ?_
        refine gm_p k_Md_canLocal rfl rfl ?_
        refine gm_g k_Md_canLocal rfl rfl rfl rfl ?_
        refine gm_p k_Md_canLocal rfl rfl ?_
        refine gm_ld k_Md_canLocal rfl rfl (gi_in (by assumption)) (by decide) ?_
        refine gm_p k_Md_canLocal rfl rfl ?_
        refine gm_p k_Md_canLocal rfl rfl ?_
        refine gm_if k_Md_canLocal rfl rfl rfl (fun hc18 => ?_) (fun hc18 => ?_)
        · (try dsimp only at hc18)
          (exfalso; simp_all; done)
        · (try dsimp only at hc18)
          refine gm_p k_Md_canLocal rfl rfl ?_
          refine gm_p k_Md_canLocal rfl rfl ?_
          refine gm_p k_Md_canLocal rfl rfl ?_
          refine gm_ivV (M' := m_Md_look) (As := [.int p, .int res]) k_Md_canLocal rfl rfl rfl rfl rfl rfl (Nat.le_of_ble_eq_true rfl) hlk ?_
          refine gm_j k_Md_canLocal rfl rfl ?_
          refine gm_p k_Md_canLocal rfl rfl ?_
          refine gm_p k_Md_canLocal rfl rfl ?_
          refine gm_g k_Md_canLocal rfl rfl rfl rfl ?_
          refine gm_p k_Md_canLocal rfl rfl ?_
          refine gm_ld k_Md_canLocal rfl rfl (gi_in (by assumption)) (by decide) ?_
          refine gm_p k_Md_canLocal rfl rfl ?_
          refine gm_p k_Md_canLocal rfl rfl ?_
          refine gm_ivE (M' := m_Md_can) (As := [.int (σ.2 23 p.toNatClampNeg), .int res, .int sure]) k_Md_canLocal rfl rfl rfl rfl rfl rfl (Nat.le_of_ble_eq_true rfl) (ih.2 _ _ _ _ _ _ (by omega) (mw_hT hT) hS hx) ?_
          refine gm_p k_Md_canLocal rfl rfl ?_
          refine gm_is (M' := m_Md_without) (As := [.long _, .int _]) k_Md_canLocal rfl rfl rfl rfl rfl rfl (Nat.le_of_ble_eq_true rfl) (fun h => c_Md_withoutQ _ _ h) ?_
          refine gm_p k_Md_canLocal rfl rfl ?_
          refine gm_p k_Md_canLocal rfl rfl ?_
          refine gm_g k_Md_canLocal rfl rfl rfl rfl ?_
          refine gm_p k_Md_canLocal rfl rfl ?_
          refine gm_p k_Md_canLocal rfl rfl ?_
          refine gm_sto k_Md_canLocal rfl rfl (gi_in (by assumption)) (by decide) ?_
          simp only [gm_up_same, gm_up_up, upd_upd, upd_self, gm_up_id]
          refine gm_p k_Md_canLocal rfl rfl ?_
          exact gm_ret (v := some (.long _)) k_Md_canLocal rfl rfl trivial rfl ⟨rfl, rfl⟩
theorem c_Md_can (ih : mw_IH l F a A D T S f) {dd : Nat} {p res sure : Int32} {v : Int64} (hD : D + 3 ≤ dd) (h9 : 6 ≤ dd) (hT : ∀ k, 20 ≤ k → k ≤ 25 → σ.2 k = T k) (hS : σ.1 39 = S) (g1 : gi p 2600 = true) (hp : mw_can T S f p res sure (σ.2 38) = some v) : gm_Has l F dd m_Md_can a A [.int p, .int res, .int sure] σ (fun w σ' => w = some (.long v) ∧ σ' = σ) := by
  obtain ⟨d, rfl⟩ : ∃ d, dd = d + 6 := ⟨dd - 6, by omega⟩
  refine gm_meth (k := 3) (L := [some (.ref a), some (.int p), some (.int res), some (.int sure), none, none, none]) pn_Md rfl (Nat.le_of_ble_eq_true rfl) ?_
  unfold mw_can at hp
  rw [mw_ch_c hT, ← hT 20 (by decide) (by decide), ← hT 21 (by decide) (by decide), ← hT 23 (by decide) (by decide), ← hT 24 (by decide) (by decide)] at hp
  by_cases h0 : σ.2 20 p.toNatClampNeg = 0
  · rw [if_pos h0] at hp
    refine gm_p k_Md_can rfl rfl ?_
    refine gm_g k_Md_can rfl rfl rfl rfl ?_
    refine gm_p k_Md_can rfl rfl ?_
    refine gm_ld k_Md_can rfl rfl (gi_in (by assumption)) (by decide) ?_
    refine gm_p k_Md_can rfl rfl ?_
    refine gm_p k_Md_can rfl rfl ?_
    refine gm_g k_Md_can rfl rfl rfl rfl ?_
    refine gm_p k_Md_can rfl rfl ?_
    refine gm_ld k_Md_can rfl rfl (gi_in (by assumption)) (by decide) ?_
    rw [show ((σ.2 20 p.toNatClampNeg : Int32)) = 0 from h0]
    refine gm_tI (tgt := 68) k_Md_can rfl rfl (by decide) (by decide) rfl rfl ?_
    refine gm_p k_Md_can rfl rfl ?_
    refine gm_p k_Md_can rfl rfl ?_
    refine gm_p k_Md_can rfl rfl ?_
    refine gm_ivE (M' := m_Md_must) (As := [.int p, .int res]) k_Md_can rfl rfl rfl rfl rfl rfl (Nat.le_of_ble_eq_true rfl) (ih.1 _ _ _ _ _ (by omega) hT hS hp) ?_
    exact gm_ret (v := some (.long _)) k_Md_can rfl rfl trivial rfl ⟨rfl, rfl⟩
  · rw [if_neg h0] at hp
    by_cases h1 : σ.2 20 p.toNatClampNeg = 1
    · rw [if_pos h1] at hp
      refine gm_p k_Md_can rfl rfl ?_
      refine gm_g k_Md_can rfl rfl rfl rfl ?_
      refine gm_p k_Md_can rfl rfl ?_
      refine gm_ld k_Md_can rfl rfl (gi_in (by assumption)) (by decide) ?_
      refine gm_p k_Md_can rfl rfl ?_
      refine gm_p k_Md_can rfl rfl ?_
      refine gm_g k_Md_can rfl rfl rfl rfl ?_
      refine gm_p k_Md_can rfl rfl ?_
      refine gm_ld k_Md_can rfl rfl (gi_in (by assumption)) (by decide) ?_
      rw [show ((σ.2 20 p.toNatClampNeg : Int32)) = 1 from h1]
      refine gm_tI (tgt := 68) k_Md_can rfl rfl (by decide) (by decide) rfl rfl ?_
      refine gm_p k_Md_can rfl rfl ?_
      refine gm_p k_Md_can rfl rfl ?_
      refine gm_p k_Md_can rfl rfl ?_
      refine gm_ivE (M' := m_Md_must) (As := [.int p, .int res]) k_Md_can rfl rfl rfl rfl rfl rfl (Nat.le_of_ble_eq_true rfl) (ih.1 _ _ _ _ _ (by omega) hT hS hp) ?_
      exact gm_ret (v := some (.long _)) k_Md_can rfl rfl trivial rfl ⟨rfl, rfl⟩
    · rw [if_neg h1] at hp
      by_cases h2 : σ.2 20 p.toNatClampNeg = 2
      · rw [if_pos h2] at hp
        refine gm_p k_Md_can rfl rfl ?_
        refine gm_g k_Md_can rfl rfl rfl rfl ?_
        refine gm_p k_Md_can rfl rfl ?_
        refine gm_ld k_Md_can rfl rfl (gi_in (by assumption)) (by decide) ?_
        refine gm_p k_Md_can rfl rfl ?_
        refine gm_p k_Md_can rfl rfl ?_
        refine gm_g k_Md_can rfl rfl rfl rfl ?_
        refine gm_p k_Md_can rfl rfl ?_
        refine gm_ld k_Md_can rfl rfl (gi_in (by assumption)) (by decide) ?_
        rw [show ((σ.2 20 p.toNatClampNeg : Int32)) = 2 from h2]
        refine gm_tI (tgt := 68) k_Md_can rfl rfl (by decide) (by decide) rfl rfl ?_
        refine gm_p k_Md_can rfl rfl ?_
        refine gm_p k_Md_can rfl rfl ?_
        refine gm_p k_Md_can rfl rfl ?_
        refine gm_ivE (M' := m_Md_must) (As := [.int p, .int res]) k_Md_can rfl rfl rfl rfl rfl rfl (Nat.le_of_ble_eq_true rfl) (ih.1 _ _ _ _ _ (by omega) hT hS hp) ?_
        exact gm_ret (v := some (.long _)) k_Md_can rfl rfl trivial rfl ⟨rfl, rfl⟩
      · rw [if_neg h2] at hp
        by_cases h3 : σ.2 20 p.toNatClampNeg = 3
        · rw [if_pos h3] at hp
          by_cases r0 : res = 0
          · rw [if_pos r0] at hp
            by_cases g2 : gi (σ.2 21 p.toNatClampNeg) 26 = true
            · rw [if_pos g2] at hp
              by_cases e0 : σ.2 38 (σ.2 21 p.toNatClampNeg).toNatClampNeg = 0
              · rw [if_pos e0] at hp
                cases hx : f true (σ.2 23 p.toNatClampNeg) 0 0 (σ.2 38) with
                | none =>
                  rw [hx] at hp
                  cases hp
                | some x =>
                  rw [hx] at hp
                  try dsimp only at hp
                  by_cases g3 : gi (σ.2 23 p.toNatClampNeg) 2600 = true
                  · rw [if_pos g3] at hp
                    cases hy : f true (σ.2 24 (σ.2 23 p.toNatClampNeg).toNatClampNeg) 0 0 (σ.2 38) with
                    | none =>
                      rw [hy] at hp
                      cases hp
                    | some y =>
                      rw [hy] at hp
                      try dsimp only at hp
                      cases hp
                      refine gm_p k_Md_can rfl rfl ?_
                      refine gm_g k_Md_can rfl rfl rfl rfl ?_
                      refine gm_p k_Md_can rfl rfl ?_
                      refine gm_ld k_Md_can rfl rfl (gi_in (by assumption)) (by decide) ?_
                      refine gm_p k_Md_can rfl rfl ?_
                      refine gm_p k_Md_can rfl rfl ?_
                      refine gm_g k_Md_can rfl rfl rfl rfl ?_
                      refine gm_p k_Md_can rfl rfl ?_
                      refine gm_ld k_Md_can rfl rfl (gi_in (by assumption)) (by decide) ?_
                      rw [show ((σ.2 20 p.toNatClampNeg : Int32)) = 3 from h3]
                      refine gm_tI (tgt := 75) k_Md_can rfl rfl (by decide) (by decide) rfl rfl ?_
                      refine gm_p k_Md_can rfl rfl ?_
                      refine gm_if k_Md_can rfl rfl rfl (fun hc76 => ?_) (fun hc76 => ?_)
                      · (try dsimp only at hc76)
                        refine gm_p k_Md_can rfl rfl ?_
                        refine gm_g k_Md_can rfl rfl rfl rfl ?_
                        refine gm_p k_Md_can rfl rfl ?_
                        refine gm_g k_Md_can rfl rfl rfl rfl ?_
                        refine gm_p k_Md_can rfl rfl ?_
                        refine gm_ld k_Md_can rfl rfl (gi_in (by assumption)) (by decide) ?_
                        refine gm_ld k_Md_can rfl rfl (gi_in (by assumption)) (by decide) ?_
                        refine gm_if k_Md_can rfl rfl rfl (fun hc103 => ?_) (fun hc103 => ?_)
                        · (try dsimp only at hc103)
                          refine gm_p k_Md_can rfl rfl ?_
                          refine gm_p k_Md_can rfl rfl ?_
                          refine gm_p k_Md_can rfl rfl ?_
                          refine gm_p k_Md_can rfl rfl ?_
                          refine gm_ivE (M' := m_Md_can) (As := [.int (σ.2 23 p.toNatClampNeg), .int 0, .int 0]) k_Md_can rfl rfl rfl rfl rfl rfl (Nat.le_of_ble_eq_true rfl) (ih.2 _ _ _ _ _ _ (by omega) hT hS hx) ?_
                          refine gm_p k_Md_can rfl rfl ?_
                          refine gm_p k_Md_can rfl rfl ?_
                          refine gm_g k_Md_can rfl rfl rfl rfl ?_
                          refine gm_p k_Md_can rfl rfl ?_
                          refine gm_ld k_Md_can rfl rfl (gi_in (by assumption)) (by decide) ?_
                          refine gm_p k_Md_can rfl rfl ?_
                          refine gm_p k_Md_can rfl rfl ?_
                          refine gm_ivE (M' := m_Md_can) (As := [.int (σ.2 24 (σ.2 23 p.toNatClampNeg).toNatClampNeg), .int 0, .int 0]) k_Md_can rfl rfl rfl rfl rfl rfl (Nat.le_of_ble_eq_true rfl) (ih.2 _ _ _ _ _ _ (by omega) hT hS hy) ?_
                          refine gm_p k_Md_can rfl rfl ?_
                          exact gm_ret (v := some (.long _)) k_Md_can rfl rfl trivial rfl ⟨rfl, rfl⟩
                        · (try dsimp only at hc103)
                          (exfalso; simp_all; done)
                      · (try dsimp only at hc76)
                        (exfalso; simp_all; done)
                  · rw [if_neg g3] at hp
                    cases hp
              · rw [if_neg e0] at hp
                cases hq : mw_ch σ.2 S p (σ.2 38 (σ.2 21 p.toNatClampNeg).toNatClampNeg) with
                | none =>
                  rw [hq] at hp
                  cases hp
                | some q =>
                  rw [hq] at hp
                  try dsimp only at hp
                  rw [← hS] at hq
                  refine gm_p k_Md_can rfl rfl ?_
                  refine gm_g k_Md_can rfl rfl rfl rfl ?_
                  refine gm_p k_Md_can rfl rfl ?_
                  refine gm_ld k_Md_can rfl rfl (gi_in (by assumption)) (by decide) ?_
                  refine gm_p k_Md_can rfl rfl ?_
                  refine gm_p k_Md_can rfl rfl ?_
                  refine gm_g k_Md_can rfl rfl rfl rfl ?_
                  refine gm_p k_Md_can rfl rfl ?_
                  refine gm_ld k_Md_can rfl rfl (gi_in (by assumption)) (by decide) ?_
                  rw [show ((σ.2 20 p.toNatClampNeg : Int32)) = 3 from h3]
                  refine gm_tI (tgt := 75) k_Md_can rfl rfl (by decide) (by decide) rfl rfl ?_
                  refine gm_p k_Md_can rfl rfl ?_
                  refine gm_if k_Md_can rfl rfl rfl (fun hc76 => ?_) (fun hc76 => ?_)
                  · (try dsimp only at hc76)
                    refine gm_p k_Md_can rfl rfl ?_
                    refine gm_g k_Md_can rfl rfl rfl rfl ?_
                    refine gm_p k_Md_can rfl rfl ?_
                    refine gm_g k_Md_can rfl rfl rfl rfl ?_
                    refine gm_p k_Md_can rfl rfl ?_
                    refine gm_ld k_Md_can rfl rfl (gi_in (by assumption)) (by decide) ?_
                    refine gm_ld k_Md_can rfl rfl (gi_in (by assumption)) (by decide) ?_
                    refine gm_if k_Md_can rfl rfl rfl (fun hc103 => ?_) (fun hc103 => ?_)
                    · (try dsimp only at hc103)
                      (exfalso; simp_all; done)
                    · (try dsimp only at hc103)
                      refine gm_p k_Md_can rfl rfl ?_
                      refine gm_p k_Md_can rfl rfl ?_
                      refine gm_p k_Md_can rfl rfl ?_
                      refine gm_p k_Md_can rfl rfl ?_
                      refine gm_g k_Md_can rfl rfl rfl rfl ?_
                      refine gm_p k_Md_can rfl rfl ?_
                      refine gm_g k_Md_can rfl rfl rfl rfl ?_
                      refine gm_p k_Md_can rfl rfl ?_
                      refine gm_ld k_Md_can rfl rfl (gi_in (by assumption)) (by decide) ?_
                      refine gm_ld k_Md_can rfl rfl (gi_in (by assumption)) (by decide) ?_
                      refine gm_ivE (M' := m_Md_chosen) (As := [.int p, .int _]) k_Md_can rfl rfl rfl rfl rfl rfl (Nat.le_of_ble_eq_true rfl) (c_Md_chosen hq) ?_
                      refine gm_p k_Md_can rfl rfl ?_
                      refine gm_p k_Md_can rfl rfl ?_
                      refine gm_ivE (M' := m_Md_can) (As := [.int q, .int 0, .int sure]) k_Md_can rfl rfl rfl rfl rfl rfl (Nat.le_of_ble_eq_true rfl) (ih.2 _ _ _ _ _ _ (by omega) hT hS hp) ?_
                      exact gm_ret (v := some (.long _)) k_Md_can rfl rfl trivial rfl ⟨rfl, rfl⟩
                  · (try dsimp only at hc76)
                    (exfalso; simp_all; done)
            · rw [if_neg g2] at hp
              cases hp
          · rw [if_neg r0] at hp
            cases hq : mw_ch σ.2 S p 0 with
            | none =>
              rw [hq] at hp
              cases hp
            | some q =>
              rw [hq] at hp
              try dsimp only at hp
              rw [← hS] at hq
              refine gm_p k_Md_can rfl rfl ?_
              refine gm_g k_Md_can rfl rfl rfl rfl ?_
              refine gm_p k_Md_can rfl rfl ?_
              refine gm_ld k_Md_can rfl rfl (gi_in (by assumption)) (by decide) ?_
              refine gm_p k_Md_can rfl rfl ?_
              refine gm_p k_Md_can rfl rfl ?_
              refine gm_g k_Md_can rfl rfl rfl rfl ?_
              refine gm_p k_Md_can rfl rfl ?_
              refine gm_ld k_Md_can rfl rfl (gi_in (by assumption)) (by decide) ?_
              rw [show ((σ.2 20 p.toNatClampNeg : Int32)) = 3 from h3]
              refine gm_tI (tgt := 75) k_Md_can rfl rfl (by decide) (by decide) rfl rfl ?_
              refine gm_p k_Md_can rfl rfl ?_
              refine gm_if k_Md_can rfl rfl rfl (fun hc76 => ?_) (fun hc76 => ?_)
              · (try dsimp only at hc76)
                (exfalso; simp_all; done)
              · (try dsimp only at hc76)
                refine gm_p k_Md_can rfl rfl ?_
                refine gm_p k_Md_can rfl rfl ?_
                refine gm_p k_Md_can rfl rfl ?_
                refine gm_p k_Md_can rfl rfl ?_
                refine gm_ivE (M' := m_Md_chosen) (As := [.int p, .int 0]) k_Md_can rfl rfl rfl rfl rfl rfl (Nat.le_of_ble_eq_true rfl) (c_Md_chosen hq) ?_
                refine gm_p k_Md_can rfl rfl ?_
                refine gm_p k_Md_can rfl rfl ?_
                refine gm_ivE (M' := m_Md_can) (As := [.int q, .int 1, .int sure]) k_Md_can rfl rfl rfl rfl rfl rfl (Nat.le_of_ble_eq_true rfl) (ih.2 _ _ _ _ _ _ (by omega) hT hS hp) ?_
                exact gm_ret (v := some (.long _)) k_Md_can rfl rfl trivial rfl ⟨rfl, rfl⟩
        · rw [if_neg h3] at hp
          by_cases h4 : σ.2 20 p.toNatClampNeg = 4
          · rw [if_pos h4] at hp
            refine gm_p k_Md_can rfl rfl ?_
            refine gm_g k_Md_can rfl rfl rfl rfl ?_
            refine gm_p k_Md_can rfl rfl ?_
            refine gm_ld k_Md_can rfl rfl (gi_in (by assumption)) (by decide) ?_
            refine gm_p k_Md_can rfl rfl ?_
            refine gm_p k_Md_can rfl rfl ?_
            refine gm_g k_Md_can rfl rfl rfl rfl ?_
            refine gm_p k_Md_can rfl rfl ?_
            refine gm_ld k_Md_can rfl rfl (gi_in (by assumption)) (by decide) ?_
            rw [show ((σ.2 20 p.toNatClampNeg : Int32)) = 4 from h4]
            refine gm_tI (tgt := 152) k_Md_can rfl rfl (by decide) (by decide) rfl rfl ?_
            refine gm_p k_Md_can rfl rfl ?_
            refine gm_p k_Md_can rfl rfl ?_
            refine gm_p k_Md_can rfl rfl ?_
            refine gm_p k_Md_can rfl rfl ?_
            refine gm_ivE (M' := m_Md_canLoop) (As := [.int (σ.2 23 p.toNatClampNeg), .int res, .int sure]) k_Md_can rfl rfl rfl rfl rfl rfl (Nat.le_of_ble_eq_true rfl) (c_Md_canLoop ih (by omega) (by omega) hT hS hp) ?_
            exact gm_ret (v := some (.long _)) k_Md_can rfl rfl trivial rfl ⟨rfl, rfl⟩
          · rw [if_neg h4] at hp
            by_cases h5 : σ.2 20 p.toNatClampNeg = 5
            · rw [if_pos h5] at hp
              by_cases r0 : res = 0
              · rw [if_pos r0] at hp
                refine gm_p k_Md_can rfl rfl ?_
                refine gm_g k_Md_can rfl rfl rfl rfl ?_
                refine gm_p k_Md_can rfl rfl ?_
                refine gm_ld k_Md_can rfl rfl (gi_in (by assumption)) (by decide) ?_
                refine gm_p k_Md_can rfl rfl ?_
                refine gm_p k_Md_can rfl rfl ?_
                refine gm_g k_Md_can rfl rfl rfl rfl ?_
                refine gm_p k_Md_can rfl rfl ?_
                refine gm_ld k_Md_can rfl rfl (gi_in (by assumption)) (by decide) ?_
                rw [show ((σ.2 20 p.toNatClampNeg : Int32)) = 5 from h5]
                refine gm_tI (tgt := 161) k_Md_can rfl rfl (by decide) (by decide) rfl rfl ?_
                refine gm_p k_Md_can rfl rfl ?_
                refine gm_if k_Md_can rfl rfl rfl (fun hc162 => ?_) (fun hc162 => ?_)
                · (try dsimp only at hc162)
                  refine gm_p k_Md_can rfl rfl ?_
                  refine gm_p k_Md_can rfl rfl ?_
                  refine gm_p k_Md_can rfl rfl ?_
                  refine gm_p k_Md_can rfl rfl ?_
                  refine gm_ivE (M' := m_Md_can) (As := [.int (σ.2 23 p.toNatClampNeg), .int res, .int sure]) k_Md_can rfl rfl rfl rfl rfl rfl (Nat.le_of_ble_eq_true rfl) (ih.2 _ _ _ _ _ _ (by omega) hT hS hp) ?_
                  exact gm_ret (v := some (.long _)) k_Md_can rfl rfl trivial rfl ⟨rfl, rfl⟩
                · (try dsimp only at hc162)
                  (exfalso; simp_all; done)
              · rw [if_neg r0] at hp
                by_cases g2 : gi (σ.2 21 p.toNatClampNeg) 26 = true
                · rw [if_pos g2] at hp
                  by_cases e2 : σ.2 38 (σ.2 21 p.toNatClampNeg).toNatClampNeg = 2
                  · rw [if_pos e2] at hp
                    refine gm_p k_Md_can rfl rfl ?_
                    refine gm_g k_Md_can rfl rfl rfl rfl ?_
                    refine gm_p k_Md_can rfl rfl ?_
                    refine gm_ld k_Md_can rfl rfl (gi_in (by assumption)) (by decide) ?_
                    refine gm_p k_Md_can rfl rfl ?_
                    refine gm_p k_Md_can rfl rfl ?_
                    refine gm_g k_Md_can rfl rfl rfl rfl ?_
                    refine gm_p k_Md_can rfl rfl ?_
                    refine gm_ld k_Md_can rfl rfl (gi_in (by assumption)) (by decide) ?_
                    rw [show ((σ.2 20 p.toNatClampNeg : Int32)) = 5 from h5]
                    refine gm_tI (tgt := 161) k_Md_can rfl rfl (by decide) (by decide) rfl rfl ?_
                    refine gm_p k_Md_can rfl rfl ?_
                    refine gm_if k_Md_can rfl rfl rfl (fun hc162 => ?_) (fun hc162 => ?_)
                    · (try dsimp only at hc162)
                      (exfalso; simp_all; done)
                    · (try dsimp only at hc162)
                      refine gm_p k_Md_can rfl rfl ?_
                      refine gm_g k_Md_can rfl rfl rfl rfl ?_
                      refine gm_p k_Md_can rfl rfl ?_
                      refine gm_g k_Md_can rfl rfl rfl rfl ?_
                      refine gm_p k_Md_can rfl rfl ?_
                      refine gm_ld k_Md_can rfl rfl (gi_in (by assumption)) (by decide) ?_
                      refine gm_ld k_Md_can rfl rfl (gi_in (by assumption)) (by decide) ?_
                      refine gm_p k_Md_can rfl rfl ?_
                      refine gm_ic k_Md_can rfl rfl rfl (fun hc177 => ?_) (fun hc177 => ?_)
                      · (try dsimp only at hc177)
                        (exfalso; simp_all; done)
                      · (try dsimp only at hc177)
                        refine gm_p k_Md_can rfl rfl ?_
                        refine gm_p k_Md_can rfl rfl ?_
                        refine gm_p k_Md_can rfl rfl ?_
                        refine gm_p k_Md_can rfl rfl ?_
                        refine gm_ivE (M' := m_Md_can) (As := [.int (σ.2 23 p.toNatClampNeg), .int res, .int sure]) k_Md_can rfl rfl rfl rfl rfl rfl (Nat.le_of_ble_eq_true rfl) (ih.2 _ _ _ _ _ _ (by omega) hT hS hp) ?_
                        exact gm_ret (v := some (.long _)) k_Md_can rfl rfl trivial rfl ⟨rfl, rfl⟩
                  · rw [if_neg e2] at hp
                    by_cases e1 : σ.2 38 (σ.2 21 p.toNatClampNeg).toNatClampNeg = 1
                    · rw [if_pos e1] at hp
                      cases hp
                      refine gm_p k_Md_can rfl rfl ?_
                      refine gm_g k_Md_can rfl rfl rfl rfl ?_
                      refine gm_p k_Md_can rfl rfl ?_
                      refine gm_ld k_Md_can rfl rfl (gi_in (by assumption)) (by decide) ?_
                      refine gm_p k_Md_can rfl rfl ?_
                      refine gm_p k_Md_can rfl rfl ?_
                      refine gm_g k_Md_can rfl rfl rfl rfl ?_
                      refine gm_p k_Md_can rfl rfl ?_
                      refine gm_ld k_Md_can rfl rfl (gi_in (by assumption)) (by decide) ?_
                      rw [show ((σ.2 20 p.toNatClampNeg : Int32)) = 5 from h5]
                      refine gm_tI (tgt := 161) k_Md_can rfl rfl (by decide) (by decide) rfl rfl ?_
                      refine gm_p k_Md_can rfl rfl ?_
                      refine gm_if k_Md_can rfl rfl rfl (fun hc162 => ?_) (fun hc162 => ?_)
                      · (try dsimp only at hc162)
                        (exfalso; simp_all; done)
                      · (try dsimp only at hc162)
                        refine gm_p k_Md_can rfl rfl ?_
                        refine gm_g k_Md_can rfl rfl rfl rfl ?_
                        refine gm_p k_Md_can rfl rfl ?_
                        refine gm_g k_Md_can rfl rfl rfl rfl ?_
                        refine gm_p k_Md_can rfl rfl ?_
                        refine gm_ld k_Md_can rfl rfl (gi_in (by assumption)) (by decide) ?_
                        refine gm_ld k_Md_can rfl rfl (gi_in (by assumption)) (by decide) ?_
                        refine gm_p k_Md_can rfl rfl ?_
                        refine gm_ic k_Md_can rfl rfl rfl (fun hc177 => ?_) (fun hc177 => ?_)
                        · (try dsimp only at hc177)
                          refine gm_p k_Md_can rfl rfl ?_
                          refine gm_g k_Md_can rfl rfl rfl rfl ?_
                          refine gm_p k_Md_can rfl rfl ?_
                          refine gm_g k_Md_can rfl rfl rfl rfl ?_
                          refine gm_p k_Md_can rfl rfl ?_
                          refine gm_ld k_Md_can rfl rfl (gi_in (by assumption)) (by decide) ?_
                          refine gm_ld k_Md_can rfl rfl (gi_in (by assumption)) (by decide) ?_
                          refine gm_p k_Md_can rfl rfl ?_
                          refine gm_ic k_Md_can rfl rfl rfl (fun hc201 => ?_) (fun hc201 => ?_)
                          · (try dsimp only at hc201)
                            (exfalso; simp_all; done)
                          · (try dsimp only at hc201)
                            refine gm_l2w k_Md_can rfl rfl ?_
                            refine gm_j k_Md_can rfl rfl ?_
                            exact gm_ret (v := some (.long _)) k_Md_can rfl rfl trivial rfl ⟨rfl, rfl⟩
                        · (try dsimp only at hc177)
                          (exfalso; simp_all; done)
                    · rw [if_neg e1] at hp
                      cases hx : f true (σ.2 23 p.toNatClampNeg) 1 0 (σ.2 38) with
                      | none =>
                        rw [hx] at hp
                        cases hp
                      | some x =>
                        rw [hx] at hp
                        try dsimp only at hp
                        cases hp
                        refine gm_p k_Md_can rfl rfl ?_
                        refine gm_g k_Md_can rfl rfl rfl rfl ?_
                        refine gm_p k_Md_can rfl rfl ?_
                        refine gm_ld k_Md_can rfl rfl (gi_in (by assumption)) (by decide) ?_
                        refine gm_p k_Md_can rfl rfl ?_
                        refine gm_p k_Md_can rfl rfl ?_
                        refine gm_g k_Md_can rfl rfl rfl rfl ?_
                        refine gm_p k_Md_can rfl rfl ?_
                        refine gm_ld k_Md_can rfl rfl (gi_in (by assumption)) (by decide) ?_
                        rw [show ((σ.2 20 p.toNatClampNeg : Int32)) = 5 from h5]
                        refine gm_tI (tgt := 161) k_Md_can rfl rfl (by decide) (by decide) rfl rfl ?_
                        refine gm_p k_Md_can rfl rfl ?_
                        refine gm_if k_Md_can rfl rfl rfl (fun hc162 => ?_) (fun hc162 => ?_)
                        · (try dsimp only at hc162)
                          (exfalso; simp_all; done)
                        · (try dsimp only at hc162)
                          refine gm_p k_Md_can rfl rfl ?_
                          refine gm_g k_Md_can rfl rfl rfl rfl ?_
                          refine gm_p k_Md_can rfl rfl ?_
                          refine gm_g k_Md_can rfl rfl rfl rfl ?_
                          refine gm_p k_Md_can rfl rfl ?_
                          refine gm_ld k_Md_can rfl rfl (gi_in (by assumption)) (by decide) ?_
                          refine gm_ld k_Md_can rfl rfl (gi_in (by assumption)) (by decide) ?_
                          refine gm_p k_Md_can rfl rfl ?_
                          refine gm_ic k_Md_can rfl rfl rfl (fun hc177 => ?_) (fun hc177 => ?_)
                          · (try dsimp only at hc177)
                            refine gm_p k_Md_can rfl rfl ?_
                            refine gm_g k_Md_can rfl rfl rfl rfl ?_
                            refine gm_p k_Md_can rfl rfl ?_
                            refine gm_g k_Md_can rfl rfl rfl rfl ?_
                            refine gm_p k_Md_can rfl rfl ?_
                            refine gm_ld k_Md_can rfl rfl (gi_in (by assumption)) (by decide) ?_
                            refine gm_ld k_Md_can rfl rfl (gi_in (by assumption)) (by decide) ?_
                            refine gm_p k_Md_can rfl rfl ?_
                            refine gm_ic k_Md_can rfl rfl rfl (fun hc201 => ?_) (fun hc201 => ?_)
                            · (try dsimp only at hc201)
                              refine gm_p k_Md_can rfl rfl ?_
                              refine gm_p k_Md_can rfl rfl ?_
                              refine gm_p k_Md_can rfl rfl ?_
                              refine gm_p k_Md_can rfl rfl ?_
                              refine gm_ivE (M' := m_Md_can) (As := [.int (σ.2 23 p.toNatClampNeg), .int 1, .int 0]) k_Md_can rfl rfl rfl rfl rfl rfl (Nat.le_of_ble_eq_true rfl) (ih.2 _ _ _ _ _ _ (by omega) hT hS hx) ?_
                              refine gm_l2w k_Md_can rfl rfl ?_
                              refine gm_p k_Md_can rfl rfl ?_
                              exact gm_ret (v := some (.long _)) k_Md_can rfl rfl trivial rfl ⟨rfl, rfl⟩
                            · (try dsimp only at hc201)
                              (exfalso; simp_all; done)
                          · (try dsimp only at hc177)
                            (exfalso; simp_all; done)
                · rw [if_neg g2] at hp
                  cases hp
            · rw [if_neg h5] at hp
              by_cases h6 : σ.2 20 p.toNatClampNeg = 6
              · rw [if_pos h6] at hp
                cases hx : f true (σ.2 23 p.toNatClampNeg) res sure (σ.2 38) with
                | none =>
                  rw [hx] at hp
                  cases hp
                | some x =>
                  rw [hx] at hp
                  try dsimp only at hp
                  cases hp
                  refine gm_p k_Md_can rfl rfl ?_
                  refine gm_g k_Md_can rfl rfl rfl rfl ?_
                  refine gm_p k_Md_can rfl rfl ?_
                  refine gm_ld k_Md_can rfl rfl (gi_in (by assumption)) (by decide) ?_
                  refine gm_p k_Md_can rfl rfl ?_
                  refine gm_p k_Md_can rfl rfl ?_
                  refine gm_g k_Md_can rfl rfl rfl rfl ?_
                  refine gm_p k_Md_can rfl rfl ?_
                  refine gm_ld k_Md_can rfl rfl (gi_in (by assumption)) (by decide) ?_
                  rw [show ((σ.2 20 p.toNatClampNeg : Int32)) = 6 from h6]
                  refine gm_tI (tgt := 223) k_Md_can rfl rfl (by decide) (by decide) rfl rfl ?_
                  refine gm_p k_Md_can rfl rfl ?_
                  refine gm_p k_Md_can rfl rfl ?_
                  refine gm_p k_Md_can rfl rfl ?_
                  refine gm_p k_Md_can rfl rfl ?_
                  refine gm_ivE (M' := m_Md_can) (As := [.int (σ.2 23 p.toNatClampNeg), .int res, .int sure]) k_Md_can rfl rfl rfl rfl rfl rfl (Nat.le_of_ble_eq_true rfl) (ih.2 _ _ _ _ _ _ (by omega) hT hS hx) ?_
                  refine gm_p k_Md_can rfl rfl ?_
                  refine gm_p k_Md_can rfl rfl ?_
                  refine gm_p k_Md_can rfl rfl ?_
                  refine gm_is (M' := m_Md_codesOf) (As := [.long _]) k_Md_can rfl rfl rfl rfl rfl rfl (Nat.le_of_ble_eq_true rfl) (fun h => c_Md_codesOf _ h) ?_
                  refine gm_is (M' := m_Md_lowered) (As := [.int _]) k_Md_can rfl rfl rfl rfl rfl rfl (Nat.le_of_ble_eq_true rfl) (fun h => c_Md_loweredQ _ h) ?_
                  refine gm_is (M' := m_Md_join) (As := [.long _, .int _]) k_Md_can rfl rfl rfl rfl rfl rfl (Nat.le_of_ble_eq_true rfl) (fun h => c_Md_join _ _ h) ?_
                  exact gm_ret (v := some (.long _)) k_Md_can rfl rfl trivial rfl ⟨rfl, rfl⟩
              · rw [if_neg h6] at hp
                by_cases h7 : σ.2 20 p.toNatClampNeg = 7
                · rw [if_pos h7] at hp
                  refine gm_p k_Md_can rfl rfl ?_
                  refine gm_g k_Md_can rfl rfl rfl rfl ?_
                  refine gm_p k_Md_can rfl rfl ?_
                  refine gm_ld k_Md_can rfl rfl (gi_in (by assumption)) (by decide) ?_
                  refine gm_p k_Md_can rfl rfl ?_
                  refine gm_p k_Md_can rfl rfl ?_
                  refine gm_g k_Md_can rfl rfl rfl rfl ?_
                  refine gm_p k_Md_can rfl rfl ?_
                  refine gm_ld k_Md_can rfl rfl (gi_in (by assumption)) (by decide) ?_
                  rw [show ((σ.2 20 p.toNatClampNeg : Int32)) = 7 from h7]
                  refine gm_tI (tgt := 68) k_Md_can rfl rfl (by decide) (by decide) rfl rfl ?_
                  refine gm_p k_Md_can rfl rfl ?_
                  refine gm_p k_Md_can rfl rfl ?_
                  refine gm_p k_Md_can rfl rfl ?_
                  refine gm_ivE (M' := m_Md_must) (As := [.int p, .int res]) k_Md_can rfl rfl rfl rfl rfl rfl (Nat.le_of_ble_eq_true rfl) (ih.1 _ _ _ _ _ (by omega) hT hS hp) ?_
                  exact gm_ret (v := some (.long _)) k_Md_can rfl rfl trivial rfl ⟨rfl, rfl⟩
                · rw [if_neg h7] at hp
                  by_cases h8 : σ.2 20 p.toNatClampNeg = 8
                  · rw [if_pos h8] at hp
                    refine gm_p k_Md_can rfl rfl ?_
                    refine gm_g k_Md_can rfl rfl rfl rfl ?_
                    refine gm_p k_Md_can rfl rfl ?_
                    refine gm_ld k_Md_can rfl rfl (gi_in (by assumption)) (by decide) ?_
                    refine gm_p k_Md_can rfl rfl ?_
                    refine gm_p k_Md_can rfl rfl ?_
                    refine gm_g k_Md_can rfl rfl rfl rfl ?_
                    refine gm_p k_Md_can rfl rfl ?_
                    refine gm_ld k_Md_can rfl rfl (gi_in (by assumption)) (by decide) ?_
                    rw [show ((σ.2 20 p.toNatClampNeg : Int32)) = 8 from h8]
                    refine gm_tI (tgt := 247) k_Md_can rfl rfl (by decide) (by decide) rfl rfl ?_
                    refine gm_p k_Md_can rfl rfl ?_
                    refine gm_p k_Md_can rfl rfl ?_
                    refine gm_p k_Md_can rfl rfl ?_
                    refine gm_p k_Md_can rfl rfl ?_
                    refine gm_ivE (M' := m_Md_canLocal) (As := [.int p, .int res, .int sure]) k_Md_can rfl rfl rfl rfl rfl rfl (Nat.le_of_ble_eq_true rfl) (c_Md_canLocal ih (by omega) (by omega) hT hS hp) ?_
                    exact gm_ret (v := some (.long _)) k_Md_can rfl rfl trivial rfl ⟨rfl, rfl⟩
                  · rw [if_neg h8] at hp
                    by_cases h9 : σ.2 20 p.toNatClampNeg = 9
                    · rw [if_pos h9] at hp
                      refine gm_p k_Md_can rfl rfl ?_
                      refine gm_g k_Md_can rfl rfl rfl rfl ?_
                      refine gm_p k_Md_can rfl rfl ?_
                      refine gm_ld k_Md_can rfl rfl (gi_in (by assumption)) (by decide) ?_
                      refine gm_p k_Md_can rfl rfl ?_
                      refine gm_p k_Md_can rfl rfl ?_
                      refine gm_g k_Md_can rfl rfl rfl rfl ?_
                      refine gm_p k_Md_can rfl rfl ?_
                      refine gm_ld k_Md_can rfl rfl (gi_in (by assumption)) (by decide) ?_
                      rw [show ((σ.2 20 p.toNatClampNeg : Int32)) = 9 from h9]
                      refine gm_tI (tgt := 255) k_Md_can rfl rfl (by decide) (by decide) rfl rfl ?_
                      refine gm_p k_Md_can rfl rfl ?_
                      refine gm_p k_Md_can rfl rfl ?_
                      refine gm_p k_Md_can rfl rfl ?_
                      refine gm_p k_Md_can rfl rfl ?_
                      refine gm_ivE (M' := m_Md_canSequence) (As := [.int p, .int res, .int sure]) k_Md_can rfl rfl rfl rfl rfl rfl (Nat.le_of_ble_eq_true rfl) (c_Md_canSequence ih (by omega) (by omega) hT hS hp) ?_
                      exact gm_ret (v := some (.long _)) k_Md_can rfl rfl trivial rfl ⟨rfl, rfl⟩
                    · rw [if_neg h9] at hp
                      refine gm_p k_Md_can rfl rfl ?_
                      refine gm_g k_Md_can rfl rfl rfl rfl ?_
                      refine gm_p k_Md_can rfl rfl ?_
                      refine gm_ld k_Md_can rfl rfl (gi_in (by assumption)) (by decide) ?_
                      refine gm_p k_Md_can rfl rfl ?_
                      refine gm_p k_Md_can rfl rfl ?_
                      refine gm_g k_Md_can rfl rfl rfl rfl ?_
                      refine gm_p k_Md_can rfl rfl ?_
                      refine gm_ld k_Md_can rfl rfl (gi_in (by assumption)) (by decide) ?_
                      refine gm_tO (tgt := 263) k_Md_can rfl rfl (sw_out h0 h1 h2 h3 h4 h5 h6 h7 h8 h9) rfl ?_
                      refine gm_p k_Md_can rfl rfl ?_
                      refine gm_p k_Md_can rfl rfl ?_
                      refine gm_p k_Md_can rfl rfl ?_
                      refine gm_p k_Md_can rfl rfl ?_
                      refine gm_ivE (M' := m_Md_canParallel) (As := [.int p, .int res, .int sure]) k_Md_can rfl rfl rfl rfl rfl rfl (Nat.le_of_ble_eq_true rfl) (c_Md_canParallel ih (by omega) (by omega) hT hS hp) ?_
                      exact gm_ret (v := some (.long _)) k_Md_can rfl rfl trivial rfl ⟨rfl, rfl⟩
end MD6
