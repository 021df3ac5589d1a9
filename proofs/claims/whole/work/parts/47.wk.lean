abbrev wk_K : Type := Nat → Int32
def wk_z : Nat → Int32 → wk_K → Option wk_K
  | 0, _, _ => none
  | m + 1, i, K => if 26 ≤ i then some K else if gi i 26 = true then wk_z m (i + 1) (upd K i.toNatClampNeg 0) else none
def wk_i (I : wk_K) (n c set : Int32) : Nat → Int32 → wk_K → Option wk_K
  | 0, _, _ => none
  | m + 1, i, K => if c ≤ i then some K else if gi (26 * n + i) 182 = true then (if gi (I (26 * n + i).toNatClampNeg) 26 = true then (if set >>> (i &&& 31) &&& 1 = 1 then wk_i I n c set m (i + 1) (upd K (I (26 * n + i).toNatClampNeg).toNatClampNeg 1) else wk_i I n c set m (i + 1) (upd K (I (26 * n + i).toNatClampNeg).toNatClampNeg 2)) else none) else none
def wk_o (O : wk_K) (n c : Int32) (is may : Int64) : Nat → Int32 → Int32 → wk_K → Option (wk_K × Int32)
  | 0, _, _, _ => none
  | m + 1, i, more, K => if c ≤ i then some (K, more) else if gi (26 * n + i) 182 = true then (if gi (O (26 * n + i).toNatClampNeg) 26 = true then (if K (O (26 * n + i).toNatClampNeg).toNatClampNeg = 0 then (if q_hasS is (O (26 * n + i).toNatClampNeg) = 0 then (if q_hasS may (O (26 * n + i).toNatClampNeg) = 0 then wk_o O n c is may m (i + 1) 1 (upd K (O (26 * n + i).toNatClampNeg).toNatClampNeg 2) else if more = 0 then wk_o O n c is may m (i + 1) 0 (upd K (O (26 * n + i).toNatClampNeg).toNatClampNeg 0) else wk_o O n c is may m (i + 1) 1 (upd K (O (26 * n + i).toNatClampNeg).toNatClampNeg 0)) else wk_o O n c is may m (i + 1) 1 (upd K (O (26 * n + i).toNatClampNeg).toNatClampNeg 1)) else wk_o O n c is may m (i + 1) more K) else none) else none
def wk_f (f : mw_F) (O : wk_K) (b res n c : Int32) : Nat → Int32 → wk_K → Option wk_K
  | 0, _, _ => none
  | m + 1, more, K => if more = 0 then some K else match f false b res 0 K with
    | none => none
    | some is => match f true b res 1 K with
      | none => none
      | some may => match wk_o O n c is may 27 0 0 K with
        | none => none
        | some x => wk_f f O b res n c m x.2 x.1
def wk_c (O : wk_K) (n c : Int32) (K : wk_K) : Nat → Int32 → Option Int32
  | 0, _ => none
  | m + 1, i => if c ≤ i then some 0 else if gi (26 * n + i) 182 = true then (if gi (O (26 * n + i).toNatClampNeg) 26 = true then (if K (O (26 * n + i).toNatClampNeg).toNatClampNeg = 0 then some 1 else wk_c O n c K m (i + 1)) else none) else none
def wk_s (O : wk_K) (n c : Int32) (K : wk_K) : Nat → Int32 → Int32 → Option Int32
  | 0, _, _ => none
  | m + 1, i, x => if c ≤ i then some x else if gi (26 * n + i) 182 = true then (if gi (O (26 * n + i).toNatClampNeg) 26 = true then (if K (O (26 * n + i).toNatClampNeg).toNatClampNeg = 1 then wk_s O n c K m (i + 1) (x ||| 1 <<< (i &&& 31)) else wk_s O n c K m (i + 1) (x ||| 0)) else none) else none
theorem gm_up_ne {g : Nat → Nat → Int32} {k j : Nat} {f : Nat → Int32} (h : j ≠ k) : gm_up g k f j = g j := if_neg h
section WK
variable {l : Launch} {F : gx_F} {dd D : Nat} {a : Nat} {A : Nat → Nat} {ρ : Nat → Int32} {τ : mw_A} {P : Option Value → gm_S → Prop} {n st set res : Int32}
theorem wk_l1 {x6 x7 x8 x9 x10 x11 : Option Value}{K' : wk_K} : ∀ (m : Nat) (i : Int32) (K : wk_K), wk_z m i K = some K' → (∀ i : Int32, gm_Go l F dd m_Md_work a A 69 ([some (.ref a), some (.int n), some (.int st), some (.int set), some (.int res), some (.int i), x6, x7, x8, x9, x10, x11]) [] (ρ, gm_up τ 38 K') P) → gm_Go l F dd m_Md_work a A 48 ([some (.ref a), some (.int n), some (.int st), some (.int set), some (.int res), some (.int i), x6, x7, x8, x9, x10, x11]) [] (ρ, gm_up τ 38 K) P := by
  intro m
  induction m with
  | zero => intro i K hk _; cases hk
  | succ m ihm =>
    intro i K hk kk
    unfold wk_z at hk
    try dsimp only at hk
    by_cases h1 : 26 ≤ i
    · rw [if_pos h1] at hk
      cases hk
      refine gm_p k_Md_work rfl rfl ?_
      refine gm_p k_Md_work rfl rfl ?_
      refine gm_ic k_Md_work rfl rfl rfl (fun hc52 => ?_) (fun hc52 => ?_)
      · (try dsimp only at hc52)
        exact kk _
      · (try dsimp only at hc52)
        (exfalso; simp_all [-Int32.not_le, -Int32.not_lt, gm_up_same, gm_up_ne, upd_eq]; done)
    · rw [if_neg h1] at hk
      by_cases g1 : gi i 26 = true
      · rw [if_pos g1] at hk
        refine gm_p k_Md_work rfl rfl ?_
        refine gm_p k_Md_work rfl rfl ?_
        refine gm_ic k_Md_work rfl rfl rfl (fun hc52 => ?_) (fun hc52 => ?_)
        · (try dsimp only at hc52)
          (exfalso; simp_all [-Int32.not_le, -Int32.not_lt, gm_up_same, gm_up_ne, upd_eq]; done)
        · (try dsimp only at hc52)
          refine gm_p k_Md_work rfl rfl ?_
          refine gm_g k_Md_work rfl rfl rfl rfl ?_
          refine gm_p k_Md_work rfl rfl ?_
          refine gm_p k_Md_work rfl rfl ?_
          refine gm_sto k_Md_work rfl rfl (gi_in (by assumption)) (by decide) ?_
          simp only [gm_up_same, gm_up_up]
          refine gm_p k_Md_work rfl rfl ?_
          refine gm_j k_Md_work rfl rfl ?_
          exact ihm _ _ hk kk
      · rw [if_neg g1] at hk
        cases hk
theorem wk_l2 {x6 x7 x8 x9 x10 x11 : Option Value} (gn : gi n 7 = true) {K' : wk_K} : ∀ (m : Nat) (i : Int32) (K : wk_K), wk_i (τ 13) n (τ 12 n.toNatClampNeg) set m i K = some K' → (∀ i : Int32, gm_Go l F dd m_Md_work a A 121 ([some (.ref a), some (.int n), some (.int st), some (.int set), some (.int res), some (.int i), x6, x7, x8, x9, x10, x11]) [] (ρ, gm_up τ 38 K') P) → gm_Go l F dd m_Md_work a A 72 ([some (.ref a), some (.int n), some (.int st), some (.int set), some (.int res), some (.int i), x6, x7, x8, x9, x10, x11]) [] (ρ, gm_up τ 38 K) P := by
  intro m
  induction m with
  | zero => intro i K hk _; cases hk
  | succ m ihm =>
    intro i K hk kk
    unfold wk_i at hk
    try dsimp only at hk
    by_cases h1 : τ 12 n.toNatClampNeg ≤ i
    · rw [if_pos h1] at hk
      cases hk
      refine gm_p k_Md_work rfl rfl ?_
      refine gm_p k_Md_work rfl rfl ?_
      refine gm_g k_Md_work rfl rfl rfl rfl ?_
      refine gm_p k_Md_work rfl rfl ?_
      refine gm_ld k_Md_work rfl rfl (gi_in (by assumption)) (by decide) ?_
      refine gm_ic k_Md_work rfl rfl rfl (fun hc80 => ?_) (fun hc80 => ?_)
      · (try dsimp only at hc80)
        exact kk _
      · (try dsimp only at hc80)
        (exfalso; simp_all [-Int32.not_le, -Int32.not_lt, gm_up_same, gm_up_ne, upd_eq]; done)
    · rw [if_neg h1] at hk
      by_cases g1 : gi (26 * n + i) 182 = true
      · rw [if_pos g1] at hk
        by_cases g2 : gi (τ 13 (26 * n + i).toNatClampNeg) 26 = true
        · rw [if_pos g2] at hk
          by_cases h2 : set >>> (i &&& 31) &&& 1 = 1
          · rw [if_pos h2] at hk
            refine gm_p k_Md_work rfl rfl ?_
            refine gm_p k_Md_work rfl rfl ?_
            refine gm_g k_Md_work rfl rfl rfl rfl ?_
            refine gm_p k_Md_work rfl rfl ?_
            refine gm_ld k_Md_work rfl rfl (gi_in (by assumption)) (by decide) ?_
            refine gm_ic k_Md_work rfl rfl rfl (fun hc80 => ?_) (fun hc80 => ?_)
            · (try dsimp only at hc80)
              (exfalso; simp_all [-Int32.not_le, -Int32.not_lt, gm_up_same, gm_up_ne, upd_eq]; done)
            · (try dsimp only at hc80)
              refine gm_p k_Md_work rfl rfl ?_
              refine gm_g k_Md_work rfl rfl rfl rfl ?_
              refine gm_p k_Md_work rfl rfl ?_
              refine gm_g k_Md_work rfl rfl rfl rfl ?_
              refine gm_p k_Md_work rfl rfl ?_
              refine gm_p k_Md_work rfl rfl ?_
              refine gm_p k_Md_work rfl rfl ?_
              refine gm_p k_Md_work rfl rfl ?_
              refine gm_p k_Md_work rfl rfl ?_
              refine gm_ld k_Md_work rfl rfl (gi_in (by assumption)) (by decide) ?_
              refine gm_p k_Md_work rfl rfl ?_
              refine gm_p k_Md_work rfl rfl ?_
              refine gm_p k_Md_work rfl rfl ?_
              refine gm_p k_Md_work rfl rfl ?_
              refine gm_p k_Md_work rfl rfl ?_
              refine gm_p k_Md_work rfl rfl ?_
              refine gm_ic k_Md_work rfl rfl rfl (fun hc106 => ?_) (fun hc106 => ?_)
              · (try dsimp only at hc106)
                (exfalso; simp_all [-Int32.not_le, -Int32.not_lt, gm_up_same, gm_up_ne, upd_eq]; done)
              · (try dsimp only at hc106)
                refine gm_p k_Md_work rfl rfl ?_
                refine gm_j k_Md_work rfl rfl ?_
                refine gm_sto k_Md_work rfl rfl (gi_in (by assumption)) (by decide) ?_
                simp only [gm_up_same, gm_up_up]
                refine gm_p k_Md_work rfl rfl ?_
                refine gm_j k_Md_work rfl rfl ?_
                exact ihm _ _ hk kk
          · rw [if_neg h2] at hk
            refine gm_p k_Md_work rfl rfl ?_
            refine gm_p k_Md_work rfl rfl ?_
            refine gm_g k_Md_work rfl rfl rfl rfl ?_
            refine gm_p k_Md_work rfl rfl ?_
            refine gm_ld k_Md_work rfl rfl (gi_in (by assumption)) (by decide) ?_
            refine gm_ic k_Md_work rfl rfl rfl (fun hc80 => ?_) (fun hc80 => ?_)
            · (try dsimp only at hc80)
              (exfalso; simp_all [-Int32.not_le, -Int32.not_lt, gm_up_same, gm_up_ne, upd_eq]; done)
            · (try dsimp only at hc80)
              refine gm_p k_Md_work rfl rfl ?_
              refine gm_g k_Md_work rfl rfl rfl rfl ?_
              refine gm_p k_Md_work rfl rfl ?_
              refine gm_g k_Md_work rfl rfl rfl rfl ?_
              refine gm_p k_Md_work rfl rfl ?_
              refine gm_p k_Md_work rfl rfl ?_
              refine gm_p k_Md_work rfl rfl ?_
              refine gm_p k_Md_work rfl rfl ?_
              refine gm_p k_Md_work rfl rfl ?_
              refine gm_ld k_Md_work rfl rfl (gi_in (by assumption)) (by decide) ?_
              refine gm_p k_Md_work rfl rfl ?_
              refine gm_p k_Md_work rfl rfl ?_
              refine gm_p k_Md_work rfl rfl ?_
              refine gm_p k_Md_work rfl rfl ?_
              refine gm_p k_Md_work rfl rfl ?_
              refine gm_p k_Md_work rfl rfl ?_
              refine gm_ic k_Md_work rfl rfl rfl (fun hc106 => ?_) (fun hc106 => ?_)
              · (try dsimp only at hc106)
                refine gm_p k_Md_work rfl rfl ?_
                refine gm_sto k_Md_work rfl rfl (gi_in (by assumption)) (by decide) ?_
                simp only [gm_up_same, gm_up_up]
                refine gm_p k_Md_work rfl rfl ?_
                refine gm_j k_Md_work rfl rfl ?_
                exact ihm _ _ hk kk
              · (try dsimp only at hc106)
                (exfalso; simp_all [-Int32.not_le, -Int32.not_lt, gm_up_same, gm_up_ne, upd_eq]; done)
        · rw [if_neg g2] at hk
          cases hk
      · rw [if_neg g1] at hk
        cases hk
theorem wk_l3 {is may : Int64} (gn : gi n 7 = true) {K' : wk_K × Int32} : ∀ (m : Nat) (x11 : Option Value) (i more : Int32) (K : wk_K), wk_o (τ 15) n (τ 14 n.toNatClampNeg) is may m i more K = some K' → (∀ (i : Int32) (x11 : Option Value), gm_Go l F (dd + 1) m_Md_work a A 266 ([some (.ref a), some (.int n), some (.int st), some (.int set), some (.int res), some (.int K'.2), some (.long is), none, some (.long may), none, some (.int i), x11]) [] (ρ, gm_up τ 38 K'.1) P) → gm_Go l F (dd + 1) m_Md_work a A 164 ([some (.ref a), some (.int n), some (.int st), some (.int set), some (.int res), some (.int more), some (.long is), none, some (.long may), none, some (.int i), x11]) [] (ρ, gm_up τ 38 K) P := by
  intro m
  induction m with
  | zero => intro x11 i more K hk _; cases hk
  | succ m ihm =>
    intro x11 i more K hk kk
    unfold wk_o at hk
    try dsimp only at hk
    by_cases h1 : τ 14 n.toNatClampNeg ≤ i
    · rw [if_pos h1] at hk
      cases hk
      refine gm_p k_Md_work rfl rfl ?_
      refine gm_p k_Md_work rfl rfl ?_
      refine gm_g k_Md_work rfl rfl rfl rfl ?_
      refine gm_p k_Md_work rfl rfl ?_
      refine gm_ld k_Md_work rfl rfl (gi_in (by assumption)) (by decide) ?_
      refine gm_ic k_Md_work rfl rfl rfl (fun hc172 => ?_) (fun hc172 => ?_)
      · (try dsimp only at hc172)
        exact kk _ _
      · (try dsimp only at hc172)
        (exfalso; simp_all [-Int32.not_le, -Int32.not_lt, gm_up_same, gm_up_ne, upd_eq]; done)
    · rw [if_neg h1] at hk
      by_cases g1 : gi (26 * n + i) 182 = true
      · rw [if_pos g1] at hk
        by_cases g2 : gi (τ 15 (26 * n + i).toNatClampNeg) 26 = true
        · rw [if_pos g2] at hk
          by_cases h2 : K (τ 15 (26 * n + i).toNatClampNeg).toNatClampNeg = 0
          · rw [if_pos h2] at hk
            by_cases h3 : q_hasS is (τ 15 (26 * n + i).toNatClampNeg) = 0
            · rw [if_pos h3] at hk
              by_cases h4 : q_hasS may (τ 15 (26 * n + i).toNatClampNeg) = 0
              · rw [if_pos h4] at hk
                refine gm_p k_Md_work rfl rfl ?_
                refine gm_p k_Md_work rfl rfl ?_
                refine gm_g k_Md_work rfl rfl rfl rfl ?_
                refine gm_p k_Md_work rfl rfl ?_
                refine gm_ld k_Md_work rfl rfl (gi_in (by assumption)) (by decide) ?_
                refine gm_ic k_Md_work rfl rfl rfl (fun hc172 => ?_) (fun hc172 => ?_)
                · (try dsimp only at hc172)
                  (exfalso; simp_all [-Int32.not_le, -Int32.not_lt, gm_up_same, gm_up_ne, upd_eq]; done)
                · (try dsimp only at hc172)
                  refine gm_p k_Md_work rfl rfl ?_
                  refine gm_g k_Md_work rfl rfl rfl rfl ?_
                  refine gm_p k_Md_work rfl rfl ?_
                  refine gm_p k_Md_work rfl rfl ?_
                  refine gm_p k_Md_work rfl rfl ?_
                  refine gm_p k_Md_work rfl rfl ?_
                  refine gm_p k_Md_work rfl rfl ?_
                  refine gm_ld k_Md_work rfl rfl (gi_in (by assumption)) (by decide) ?_
                  refine gm_p k_Md_work rfl rfl ?_
                  refine gm_p k_Md_work rfl rfl ?_
                  refine gm_g k_Md_work rfl rfl rfl rfl ?_
                  refine gm_p k_Md_work rfl rfl ?_
                  refine gm_ld k_Md_work rfl rfl (gi_in (by assumption)) (by decide) ?_
                  refine gm_if k_Md_work rfl rfl rfl (fun hc196 => ?_) (fun hc196 => ?_)
                  · (try dsimp only at hc196)
                    refine gm_p k_Md_work rfl rfl ?_
                    refine gm_g k_Md_work rfl rfl rfl rfl ?_
                    refine gm_p k_Md_work rfl rfl ?_
                    refine gm_p k_Md_work rfl rfl ?_
                    refine gm_p k_Md_work rfl rfl ?_
                    refine gm_is (M' := m_Md_hasSignal) (As := [.long is, .int _]) k_Md_work rfl rfl rfl rfl rfl rfl (Nat.le_of_ble_eq_true rfl) (fun h => c_Md_hasSignalQ _ _ h) ?_
                    refine gm_if k_Md_work rfl rfl rfl (fun hc215 => ?_) (fun hc215 => ?_)
                    · (try dsimp only at hc215)
                      refine gm_p k_Md_work rfl rfl ?_
                      refine gm_p k_Md_work rfl rfl ?_
                      refine gm_is (M' := m_Md_hasSignal) (As := [.long may, .int _]) k_Md_work rfl rfl rfl rfl rfl rfl (Nat.le_of_ble_eq_true rfl) (fun h => c_Md_hasSignalQ _ _ h) ?_
                      refine gm_if k_Md_work rfl rfl rfl (fun hc229 => ?_) (fun hc229 => ?_)
                      · (try dsimp only at hc229)
                        refine gm_p k_Md_work rfl rfl ?_
                        refine gm_sto k_Md_work rfl rfl (gi_in (by assumption)) (by decide) ?_
                        simp only [gm_up_same, gm_up_up]
                        refine gm_p k_Md_work rfl rfl ?_
                        refine gm_if k_Md_work rfl rfl rfl (fun hc240 => ?_) (fun hc240 => ?_)
                        · (try dsimp only at hc240)
                          refine gm_p k_Md_work rfl rfl ?_
                          refine gm_j k_Md_work rfl rfl ?_
                          refine gm_p k_Md_work rfl rfl ?_
                          refine gm_p k_Md_work rfl rfl ?_
                          refine gm_j k_Md_work rfl rfl ?_
                          exact ihm _ _ _ _ hk kk
                        · (try dsimp only at hc240)
                          refine gm_p k_Md_work rfl rfl ?_
                          refine gm_g k_Md_work rfl rfl rfl rfl ?_
                          refine gm_p k_Md_work rfl rfl ?_
                          refine gm_ld k_Md_work rfl rfl (gi_in (by assumption)) (by decide) ?_
                          refine gm_if k_Md_work rfl rfl rfl (fun hc250 => ?_) (fun hc250 => ?_)
                          · (try dsimp only at hc250)
                            (exfalso; simp_all [-Int32.not_le, -Int32.not_lt, gm_up_same, gm_up_ne, upd_eq]; done)
                          · (try dsimp only at hc250)
                            refine gm_p k_Md_work rfl rfl ?_
                            refine gm_j k_Md_work rfl rfl ?_
                            refine gm_p k_Md_work rfl rfl ?_
                            refine gm_p k_Md_work rfl rfl ?_
                            refine gm_j k_Md_work rfl rfl ?_
                            exact ihm _ _ _ _ hk kk
                      · (try dsimp only at hc229)
                        (exfalso; simp_all [-Int32.not_le, -Int32.not_lt, gm_up_same, gm_up_ne, upd_eq]; done)
                    · (try dsimp only at hc215)
                      (exfalso; simp_all [-Int32.not_le, -Int32.not_lt, gm_up_same, gm_up_ne, upd_eq]; done)
                  · (try dsimp only at hc196)
                    (exfalso; simp_all [-Int32.not_le, -Int32.not_lt, gm_up_same, gm_up_ne, upd_eq]; done)
              · rw [if_neg h4] at hk
                by_cases h5 : more = 0
                · rw [if_pos h5] at hk
                  refine gm_p k_Md_work rfl rfl ?_
                  refine gm_p k_Md_work rfl rfl ?_
                  refine gm_g k_Md_work rfl rfl rfl rfl ?_
                  refine gm_p k_Md_work rfl rfl ?_
                  refine gm_ld k_Md_work rfl rfl (gi_in (by assumption)) (by decide) ?_
                  refine gm_ic k_Md_work rfl rfl rfl (fun hc172 => ?_) (fun hc172 => ?_)
                  · (try dsimp only at hc172)
                    (exfalso; simp_all [-Int32.not_le, -Int32.not_lt, gm_up_same, gm_up_ne, upd_eq]; done)
                  · (try dsimp only at hc172)
                    refine gm_p k_Md_work rfl rfl ?_
                    refine gm_g k_Md_work rfl rfl rfl rfl ?_
                    refine gm_p k_Md_work rfl rfl ?_
                    refine gm_p k_Md_work rfl rfl ?_
                    refine gm_p k_Md_work rfl rfl ?_
                    refine gm_p k_Md_work rfl rfl ?_
                    refine gm_p k_Md_work rfl rfl ?_
                    refine gm_ld k_Md_work rfl rfl (gi_in (by assumption)) (by decide) ?_
                    refine gm_p k_Md_work rfl rfl ?_
                    refine gm_p k_Md_work rfl rfl ?_
                    refine gm_g k_Md_work rfl rfl rfl rfl ?_
                    refine gm_p k_Md_work rfl rfl ?_
                    refine gm_ld k_Md_work rfl rfl (gi_in (by assumption)) (by decide) ?_
                    refine gm_if k_Md_work rfl rfl rfl (fun hc196 => ?_) (fun hc196 => ?_)
                    · (try dsimp only at hc196)
                      refine gm_p k_Md_work rfl rfl ?_
                      refine gm_g k_Md_work rfl rfl rfl rfl ?_
                      refine gm_p k_Md_work rfl rfl ?_
                      refine gm_p k_Md_work rfl rfl ?_
                      refine gm_p k_Md_work rfl rfl ?_
                      refine gm_is (M' := m_Md_hasSignal) (As := [.long is, .int _]) k_Md_work rfl rfl rfl rfl rfl rfl (Nat.le_of_ble_eq_true rfl) (fun h => c_Md_hasSignalQ _ _ h) ?_
                      refine gm_if k_Md_work rfl rfl rfl (fun hc215 => ?_) (fun hc215 => ?_)
                      · (try dsimp only at hc215)
                        refine gm_p k_Md_work rfl rfl ?_
                        refine gm_p k_Md_work rfl rfl ?_
                        refine gm_is (M' := m_Md_hasSignal) (As := [.long may, .int _]) k_Md_work rfl rfl rfl rfl rfl rfl (Nat.le_of_ble_eq_true rfl) (fun h => c_Md_hasSignalQ _ _ h) ?_
                        refine gm_if k_Md_work rfl rfl rfl (fun hc229 => ?_) (fun hc229 => ?_)
                        · (try dsimp only at hc229)
                          (exfalso; simp_all [-Int32.not_le, -Int32.not_lt, gm_up_same, gm_up_ne, upd_eq]; done)
                        · (try dsimp only at hc229)
                          refine gm_p k_Md_work rfl rfl ?_
                          refine gm_j k_Md_work rfl rfl ?_
                          refine gm_sto k_Md_work rfl rfl (gi_in (by assumption)) (by decide) ?_
                          simp only [gm_up_same, gm_up_up]
                          refine gm_p k_Md_work rfl rfl ?_
                          refine gm_if k_Md_work rfl rfl rfl (fun hc240 => ?_) (fun hc240 => ?_)
                          · (try dsimp only at hc240)
                            (exfalso; simp_all [-Int32.not_le, -Int32.not_lt, gm_up_same, gm_up_ne, upd_eq]; done)
                          · (try dsimp only at hc240)
                            refine gm_p k_Md_work rfl rfl ?_
                            refine gm_g k_Md_work rfl rfl rfl rfl ?_
                            refine gm_p k_Md_work rfl rfl ?_
                            refine gm_ld k_Md_work rfl rfl (gi_in (by assumption)) (by decide) ?_
                            refine gm_if k_Md_work rfl rfl rfl (fun hc250 => ?_) (fun hc250 => ?_)
                            · (try dsimp only at hc250)
                              refine gm_p k_Md_work rfl rfl ?_
                              refine gm_p k_Md_work rfl rfl ?_
                              refine gm_p k_Md_work rfl rfl ?_
                              refine gm_j k_Md_work rfl rfl ?_
                              exact ihm _ _ _ _ hk kk
                            · (try dsimp only at hc250)
                              (exfalso; simp_all [-Int32.not_le, -Int32.not_lt, gm_up_same, gm_up_ne, upd_eq]; done)
                      · (try dsimp only at hc215)
                        (exfalso; simp_all [-Int32.not_le, -Int32.not_lt, gm_up_same, gm_up_ne, upd_eq]; done)
                    · (try dsimp only at hc196)
                      (exfalso; simp_all [-Int32.not_le, -Int32.not_lt, gm_up_same, gm_up_ne, upd_eq]; done)
                · rw [if_neg h5] at hk
                  refine gm_p k_Md_work rfl rfl ?_
                  refine gm_p k_Md_work rfl rfl ?_
                  refine gm_g k_Md_work rfl rfl rfl rfl ?_
                  refine gm_p k_Md_work rfl rfl ?_
                  refine gm_ld k_Md_work rfl rfl (gi_in (by assumption)) (by decide) ?_
                  refine gm_ic k_Md_work rfl rfl rfl (fun hc172 => ?_) (fun hc172 => ?_)
                  · (try dsimp only at hc172)
                    (exfalso; simp_all [-Int32.not_le, -Int32.not_lt, gm_up_same, gm_up_ne, upd_eq]; done)
                  · (try dsimp only at hc172)
                    refine gm_p k_Md_work rfl rfl ?_
                    refine gm_g k_Md_work rfl rfl rfl rfl ?_
                    refine gm_p k_Md_work rfl rfl ?_
                    refine gm_p k_Md_work rfl rfl ?_
                    refine gm_p k_Md_work rfl rfl ?_
                    refine gm_p k_Md_work rfl rfl ?_
                    refine gm_p k_Md_work rfl rfl ?_
                    refine gm_ld k_Md_work rfl rfl (gi_in (by assumption)) (by decide) ?_
                    refine gm_p k_Md_work rfl rfl ?_
                    refine gm_p k_Md_work rfl rfl ?_
                    refine gm_g k_Md_work rfl rfl rfl rfl ?_
                    refine gm_p k_Md_work rfl rfl ?_
                    refine gm_ld k_Md_work rfl rfl (gi_in (by assumption)) (by decide) ?_
                    refine gm_if k_Md_work rfl rfl rfl (fun hc196 => ?_) (fun hc196 => ?_)
                    · (try dsimp only at hc196)
                      refine gm_p k_Md_work rfl rfl ?_
                      refine gm_g k_Md_work rfl rfl rfl rfl ?_
                      refine gm_p k_Md_work rfl rfl ?_
                      refine gm_p k_Md_work rfl rfl ?_
                      refine gm_p k_Md_work rfl rfl ?_
                      refine gm_is (M' := m_Md_hasSignal) (As := [.long is, .int _]) k_Md_work rfl rfl rfl rfl rfl rfl (Nat.le_of_ble_eq_true rfl) (fun h => c_Md_hasSignalQ _ _ h) ?_
                      refine gm_if k_Md_work rfl rfl rfl (fun hc215 => ?_) (fun hc215 => ?_)
                      · (try dsimp only at hc215)
                        refine gm_p k_Md_work rfl rfl ?_
                        refine gm_p k_Md_work rfl rfl ?_
                        refine gm_is (M' := m_Md_hasSignal) (As := [.long may, .int _]) k_Md_work rfl rfl rfl rfl rfl rfl (Nat.le_of_ble_eq_true rfl) (fun h => c_Md_hasSignalQ _ _ h) ?_
                        refine gm_if k_Md_work rfl rfl rfl (fun hc229 => ?_) (fun hc229 => ?_)
                        · (try dsimp only at hc229)
                          (exfalso; simp_all [-Int32.not_le, -Int32.not_lt, gm_up_same, gm_up_ne, upd_eq]; done)
                        · (try dsimp only at hc229)
                          refine gm_p k_Md_work rfl rfl ?_
                          refine gm_j k_Md_work rfl rfl ?_
                          refine gm_sto k_Md_work rfl rfl (gi_in (by assumption)) (by decide) ?_
                          simp only [gm_up_same, gm_up_up]
                          refine gm_p k_Md_work rfl rfl ?_
                          refine gm_if k_Md_work rfl rfl rfl (fun hc240 => ?_) (fun hc240 => ?_)
                          · (try dsimp only at hc240)
                            refine gm_p k_Md_work rfl rfl ?_
                            refine gm_j k_Md_work rfl rfl ?_
                            refine gm_p k_Md_work rfl rfl ?_
                            refine gm_p k_Md_work rfl rfl ?_
                            refine gm_j k_Md_work rfl rfl ?_
                            exact ihm _ _ _ _ hk kk
                          · (try dsimp only at hc240)
                            (exfalso; simp_all [-Int32.not_le, -Int32.not_lt, gm_up_same, gm_up_ne, upd_eq]; done)
                      · (try dsimp only at hc215)
                        (exfalso; simp_all [-Int32.not_le, -Int32.not_lt, gm_up_same, gm_up_ne, upd_eq]; done)
                    · (try dsimp only at hc196)
                      (exfalso; simp_all [-Int32.not_le, -Int32.not_lt, gm_up_same, gm_up_ne, upd_eq]; done)
            · rw [if_neg h3] at hk
              refine gm_p k_Md_work rfl rfl ?_
              refine gm_p k_Md_work rfl rfl ?_
              refine gm_g k_Md_work rfl rfl rfl rfl ?_
              refine gm_p k_Md_work rfl rfl ?_
              refine gm_ld k_Md_work rfl rfl (gi_in (by assumption)) (by decide) ?_
              refine gm_ic k_Md_work rfl rfl rfl (fun hc172 => ?_) (fun hc172 => ?_)
              · (try dsimp only at hc172)
                (exfalso; simp_all [-Int32.not_le, -Int32.not_lt, gm_up_same, gm_up_ne, upd_eq]; done)
              · (try dsimp only at hc172)
                refine gm_p k_Md_work rfl rfl ?_
                refine gm_g k_Md_work rfl rfl rfl rfl ?_
                refine gm_p k_Md_work rfl rfl ?_
                refine gm_p k_Md_work rfl rfl ?_
                refine gm_p k_Md_work rfl rfl ?_
                refine gm_p k_Md_work rfl rfl ?_
                refine gm_p k_Md_work rfl rfl ?_
                refine gm_ld k_Md_work rfl rfl (gi_in (by assumption)) (by decide) ?_
                refine gm_p k_Md_work rfl rfl ?_
                refine gm_p k_Md_work rfl rfl ?_
                refine gm_g k_Md_work rfl rfl rfl rfl ?_
                refine gm_p k_Md_work rfl rfl ?_
                refine gm_ld k_Md_work rfl rfl (gi_in (by assumption)) (by decide) ?_
                refine gm_if k_Md_work rfl rfl rfl (fun hc196 => ?_) (fun hc196 => ?_)
                · (try dsimp only at hc196)
                  refine gm_p k_Md_work rfl rfl ?_
                  refine gm_g k_Md_work rfl rfl rfl rfl ?_
                  refine gm_p k_Md_work rfl rfl ?_
                  refine gm_p k_Md_work rfl rfl ?_
                  refine gm_p k_Md_work rfl rfl ?_
                  refine gm_is (M' := m_Md_hasSignal) (As := [.long is, .int _]) k_Md_work rfl rfl rfl rfl rfl rfl (Nat.le_of_ble_eq_true rfl) (fun h => c_Md_hasSignalQ _ _ h) ?_
                  refine gm_if k_Md_work rfl rfl rfl (fun hc215 => ?_) (fun hc215 => ?_)
                  · (try dsimp only at hc215)
                    (exfalso; simp_all [-Int32.not_le, -Int32.not_lt, gm_up_same, gm_up_ne, upd_eq]; done)
                  · (try dsimp only at hc215)
                    refine gm_p k_Md_work rfl rfl ?_
                    refine gm_j k_Md_work rfl rfl ?_
                    refine gm_sto k_Md_work rfl rfl (gi_in (by assumption)) (by decide) ?_
                    simp only [gm_up_same, gm_up_up]
                    refine gm_p k_Md_work rfl rfl ?_
                    refine gm_if k_Md_work rfl rfl rfl (fun hc240 => ?_) (fun hc240 => ?_)
                    · (try dsimp only at hc240)
                      refine gm_p k_Md_work rfl rfl ?_
                      refine gm_j k_Md_work rfl rfl ?_
                      refine gm_p k_Md_work rfl rfl ?_
                      refine gm_p k_Md_work rfl rfl ?_
                      refine gm_j k_Md_work rfl rfl ?_
                      exact ihm _ _ _ _ hk kk
                    · (try dsimp only at hc240)
                      refine gm_p k_Md_work rfl rfl ?_
                      refine gm_g k_Md_work rfl rfl rfl rfl ?_
                      refine gm_p k_Md_work rfl rfl ?_
                      refine gm_ld k_Md_work rfl rfl (gi_in (by assumption)) (by decide) ?_
                      refine gm_if k_Md_work rfl rfl rfl (fun hc250 => ?_) (fun hc250 => ?_)
                      · (try dsimp only at hc250)
                        (exfalso; simp_all [-Int32.not_le, -Int32.not_lt, gm_up_same, gm_up_ne, upd_eq]; done)
                      · (try dsimp only at hc250)
                        refine gm_p k_Md_work rfl rfl ?_
                        refine gm_j k_Md_work rfl rfl ?_
                        refine gm_p k_Md_work rfl rfl ?_
                        refine gm_p k_Md_work rfl rfl ?_
                        refine gm_j k_Md_work rfl rfl ?_
                        exact ihm _ _ _ _ hk kk
                · (try dsimp only at hc196)
                  (exfalso; simp_all [-Int32.not_le, -Int32.not_lt, gm_up_same, gm_up_ne, upd_eq]; done)
          · rw [if_neg h2] at hk
            refine gm_p k_Md_work rfl rfl ?_
            refine gm_p k_Md_work rfl rfl ?_
            refine gm_g k_Md_work rfl rfl rfl rfl ?_
            refine gm_p k_Md_work rfl rfl ?_
            refine gm_ld k_Md_work rfl rfl (gi_in (by assumption)) (by decide) ?_
            refine gm_ic k_Md_work rfl rfl rfl (fun hc172 => ?_) (fun hc172 => ?_)
            · (try dsimp only at hc172)
              (exfalso; simp_all [-Int32.not_le, -Int32.not_lt, gm_up_same, gm_up_ne, upd_eq]; done)
            · (try dsimp only at hc172)
              refine gm_p k_Md_work rfl rfl ?_
              refine gm_g k_Md_work rfl rfl rfl rfl ?_
              refine gm_p k_Md_work rfl rfl ?_
              refine gm_p k_Md_work rfl rfl ?_
              refine gm_p k_Md_work rfl rfl ?_
              refine gm_p k_Md_work rfl rfl ?_
              refine gm_p k_Md_work rfl rfl ?_
              refine gm_ld k_Md_work rfl rfl (gi_in (by assumption)) (by decide) ?_
              refine gm_p k_Md_work rfl rfl ?_
              refine gm_p k_Md_work rfl rfl ?_
              refine gm_g k_Md_work rfl rfl rfl rfl ?_
              refine gm_p k_Md_work rfl rfl ?_
              refine gm_ld k_Md_work rfl rfl (gi_in (by assumption)) (by decide) ?_
              refine gm_if k_Md_work rfl rfl rfl (fun hc196 => ?_) (fun hc196 => ?_)
              · (try dsimp only at hc196)
                (exfalso; simp_all [-Int32.not_le, -Int32.not_lt, gm_up_same, gm_up_ne, upd_eq]; done)
              · (try dsimp only at hc196)
                refine gm_j k_Md_work rfl rfl ?_
                refine gm_p k_Md_work rfl rfl ?_
                refine gm_j k_Md_work rfl rfl ?_
                exact ihm _ _ _ _ hk kk
        · rw [if_neg g2] at hk
          cases hk
      · rw [if_neg g1] at hk
        cases hk
theorem wk_l4 {f : mw_F} {T : mw_A} {S : Int32} (ih : mw_IH l F a A D T S f) (hD : D ≤ dd) (hT : ∀ k, 20 ≤ k → k ≤ 25 → τ k = T k) (hS : ρ 39 = S) (gb : 0 ≤ dd) (gn : gi n 7 = true) {K' : wk_K} : ∀ (m : Nat) (x6 x7 x8 x9 x10 x11 : Option Value) (more : Int32) (K : wk_K), wk_f f (τ 15) (τ 16 n.toNatClampNeg) res n (τ 14 n.toNatClampNeg) m more K = some K' → (∀ (x6 x7 x8 x9 x10 x11 : Option Value) (more : Int32), gm_Go l F (dd + 1) m_Md_work a A 269 ([some (.ref a), some (.int n), some (.int st), some (.int set), some (.int res), some (.int more), x6, x7, x8, x9, x10, x11]) [] (ρ, gm_up τ 38 K') P) → gm_Go l F (dd + 1) m_Md_work a A 124 ([some (.ref a), some (.int n), some (.int st), some (.int set), some (.int res), some (.int more), x6, x7, x8, x9, x10, x11]) [] (ρ, gm_up τ 38 K) P := by
  intro m
  induction m with
  | zero => intro x6 x7 x8 x9 x10 x11 more K hk _; cases hk
  | succ m ihm =>
    intro x6 x7 x8 x9 x10 x11 more K hk kk
    unfold wk_f at hk
    try dsimp only at hk
    by_cases h1 : more = 0
    · rw [if_pos h1] at hk
      cases hk
      refine gm_p k_Md_work rfl rfl ?_
      refine gm_if k_Md_work rfl rfl rfl (fun hc126 => ?_) (fun hc126 => ?_)
      · (try dsimp only at hc126)
        exact kk _ _ _ _ _ _ _
      · (try dsimp only at hc126)
        (exfalso; simp_all [-Int32.not_le, -Int32.not_lt, gm_up_same, gm_up_ne, upd_eq]; done)
    · rw [if_neg h1] at hk
      cases hx : f false (τ 16 n.toNatClampNeg) res 0 K with
      | none =>
        rw [hx] at hk
        cases hk
      | some is =>
        rw [hx] at hk
        try dsimp only at hk
        cases hy : f true (τ 16 n.toNatClampNeg) res 1 K with
        | none =>
          rw [hy] at hk
          cases hk
        | some may =>
          rw [hy] at hk
          try dsimp only at hk
          cases hz : wk_o (τ 15) n (τ 14 n.toNatClampNeg) is may 27 0 0 K with
          | none =>
            rw [hz] at hk
            cases hk
          | some x =>
            rw [hz] at hk
            try dsimp only at hk
            refine gm_p k_Md_work rfl rfl ?_
            refine gm_if k_Md_work rfl rfl rfl (fun hc126 => ?_) (fun hc126 => ?_)
            · (try dsimp only at hc126)
              (exfalso; simp_all [-Int32.not_le, -Int32.not_lt, gm_up_same, gm_up_ne, upd_eq]; done)
            · (try dsimp only at hc126)
              refine gm_p k_Md_work rfl rfl ?_
              refine gm_p k_Md_work rfl rfl ?_
              refine gm_g k_Md_work rfl rfl rfl rfl ?_
              refine gm_p k_Md_work rfl rfl ?_
              refine gm_ld k_Md_work rfl rfl (gi_in (by assumption)) (by decide) ?_
              refine gm_p k_Md_work rfl rfl ?_
              refine gm_ivE (M' := m_Md_must) (As := [.int (τ 16 n.toNatClampNeg), .int res]) k_Md_work rfl rfl rfl rfl rfl rfl (Nat.le_of_ble_eq_true rfl) (ih.1 _ _ _ _ _ (by omega) (mw_hT (σ := (ρ, τ)) hT) hS hx) ?_
              refine gm_p k_Md_work rfl rfl ?_
              refine gm_p k_Md_work rfl rfl ?_
              refine gm_p k_Md_work rfl rfl ?_
              refine gm_g k_Md_work rfl rfl rfl rfl ?_
              refine gm_p k_Md_work rfl rfl ?_
              refine gm_ld k_Md_work rfl rfl (gi_in (by assumption)) (by decide) ?_
              refine gm_p k_Md_work rfl rfl ?_
              refine gm_p k_Md_work rfl rfl ?_
              refine gm_ivE (M' := m_Md_can) (As := [.int (τ 16 n.toNatClampNeg), .int res, .int 1]) k_Md_work rfl rfl rfl rfl rfl rfl (Nat.le_of_ble_eq_true rfl) (ih.2 _ _ _ _ _ _ (by omega) (mw_hT (σ := (ρ, τ)) hT) hS hy) ?_
              refine gm_p k_Md_work rfl rfl ?_
              refine gm_p k_Md_work rfl rfl ?_
              refine gm_p k_Md_work rfl rfl ?_
              refine gm_p k_Md_work rfl rfl ?_
              refine gm_p k_Md_work rfl rfl ?_
              refine wk_l3 gn _ _ _ _ _ hz (fun i y => ?_)
              refine gm_j k_Md_work rfl rfl ?_
              exact ihm _ _ _ _ _ _ _ _ hk kk
theorem wk_l5 {y5 : Int32} {x7 x8 x9 x10 x11 : Option Value} {K : wk_K} (gn : gi n 7 = true) {r : Int32} : ∀ (m : Nat) (i : Int32), wk_c (τ 15) n (τ 14 n.toNatClampNeg) K m i = some r → ((r = 0 → ∀ i : Int32, gm_Go l F dd m_Md_work a A 311 ([some (.ref a), some (.int n), some (.int st), some (.int set), some (.int res), some (.int y5), some (.int i), x7, x8, x9, x10, x11]) [] (ρ, gm_up τ 38 K) P) ∧ (¬ r = 0 → P (some (.int 1)) (ρ, gm_up τ 38 K))) → gm_Go l F dd m_Md_work a A 272 ([some (.ref a), some (.int n), some (.int st), some (.int set), some (.int res), some (.int y5), some (.int i), x7, x8, x9, x10, x11]) [] (ρ, gm_up τ 38 K) P := by
  intro m
  induction m with
  | zero => intro i hk _; cases hk
  | succ m ihm =>
    intro i hk kk
    unfold wk_c at hk
    try dsimp only at hk
    by_cases h1 : τ 14 n.toNatClampNeg ≤ i
    · rw [if_pos h1] at hk
      cases hk
      refine gm_p k_Md_work rfl rfl ?_
      refine gm_p k_Md_work rfl rfl ?_
      refine gm_g k_Md_work rfl rfl rfl rfl ?_
      refine gm_p k_Md_work rfl rfl ?_
      refine gm_ld k_Md_work rfl rfl (gi_in (by assumption)) (by decide) ?_
      refine gm_ic k_Md_work rfl rfl rfl (fun hc280 => ?_) (fun hc280 => ?_)
      · (try dsimp only at hc280)
        exact kk.1 rfl _
      · (try dsimp only at hc280)
        (exfalso; simp_all [-Int32.not_le, -Int32.not_lt, gm_up_same, gm_up_ne, upd_eq]; done)
    · rw [if_neg h1] at hk
      by_cases g1 : gi (26 * n + i) 182 = true
      · rw [if_pos g1] at hk
        by_cases g2 : gi (τ 15 (26 * n + i).toNatClampNeg) 26 = true
        · rw [if_pos g2] at hk
          by_cases h2 : K (τ 15 (26 * n + i).toNatClampNeg).toNatClampNeg = 0
          · rw [if_pos h2] at hk
            cases hk
            refine gm_p k_Md_work rfl rfl ?_
            refine gm_p k_Md_work rfl rfl ?_
            refine gm_g k_Md_work rfl rfl rfl rfl ?_
            refine gm_p k_Md_work rfl rfl ?_
            refine gm_ld k_Md_work rfl rfl (gi_in (by assumption)) (by decide) ?_
            refine gm_ic k_Md_work rfl rfl rfl (fun hc280 => ?_) (fun hc280 => ?_)
            · (try dsimp only at hc280)
              (exfalso; simp_all [-Int32.not_le, -Int32.not_lt, gm_up_same, gm_up_ne, upd_eq]; done)
            · (try dsimp only at hc280)
              refine gm_p k_Md_work rfl rfl ?_
              refine gm_g k_Md_work rfl rfl rfl rfl ?_
              refine gm_p k_Md_work rfl rfl ?_
              refine gm_g k_Md_work rfl rfl rfl rfl ?_
              refine gm_p k_Md_work rfl rfl ?_
              refine gm_p k_Md_work rfl rfl ?_
              refine gm_p k_Md_work rfl rfl ?_
              refine gm_p k_Md_work rfl rfl ?_
              refine gm_p k_Md_work rfl rfl ?_
              refine gm_ld k_Md_work rfl rfl (gi_in (by assumption)) (by decide) ?_
              refine gm_ld k_Md_work rfl rfl (gi_in (by assumption)) (by decide) ?_
              refine gm_if k_Md_work rfl rfl rfl (fun hc300 => ?_) (fun hc300 => ?_)
              · (try dsimp only at hc300)
                (exfalso; simp_all [-Int32.not_le, -Int32.not_lt, gm_up_same, gm_up_ne, upd_eq]; done)
              · (try dsimp only at hc300)
                refine gm_p k_Md_work rfl rfl ?_
                exact gm_ret (v := some (.int _)) k_Md_work rfl rfl trivial rfl (kk.2 (by decide))
          · rw [if_neg h2] at hk
            refine gm_p k_Md_work rfl rfl ?_
            refine gm_p k_Md_work rfl rfl ?_
            refine gm_g k_Md_work rfl rfl rfl rfl ?_
            refine gm_p k_Md_work rfl rfl ?_
            refine gm_ld k_Md_work rfl rfl (gi_in (by assumption)) (by decide) ?_
            refine gm_ic k_Md_work rfl rfl rfl (fun hc280 => ?_) (fun hc280 => ?_)
            · (try dsimp only at hc280)
              (exfalso; simp_all [-Int32.not_le, -Int32.not_lt, gm_up_same, gm_up_ne, upd_eq]; done)
            · (try dsimp only at hc280)
              refine gm_p k_Md_work rfl rfl ?_
              refine gm_g k_Md_work rfl rfl rfl rfl ?_
              refine gm_p k_Md_work rfl rfl ?_
              refine gm_g k_Md_work rfl rfl rfl rfl ?_
              refine gm_p k_Md_work rfl rfl ?_
              refine gm_p k_Md_work rfl rfl ?_
              refine gm_p k_Md_work rfl rfl ?_
              refine gm_p k_Md_work rfl rfl ?_
              refine gm_p k_Md_work rfl rfl ?_
              refine gm_ld k_Md_work rfl rfl (gi_in (by assumption)) (by decide) ?_
              refine gm_ld k_Md_work rfl rfl (gi_in (by assumption)) (by decide) ?_
              refine gm_if k_Md_work rfl rfl rfl (fun hc300 => ?_) (fun hc300 => ?_)
              · (try dsimp only at hc300)
                refine gm_p k_Md_work rfl rfl ?_
                refine gm_j k_Md_work rfl rfl ?_
                exact ihm _ hk kk
              · (try dsimp only at hc300)
                (exfalso; simp_all [-Int32.not_le, -Int32.not_lt, gm_up_same, gm_up_ne, upd_eq]; done)
        · rw [if_neg g2] at hk
          cases hk
      · rw [if_neg g1] at hk
        cases hk
theorem wk_l6 {y6 : Int32} {x5 x8 x9 x10 x11 : Option Value} {K : wk_K} (gn : gi n 7 = true) {r : Int32} : ∀ (m : Nat) (i x : Int32), wk_s (τ 15) n (τ 14 n.toNatClampNeg) K m i x = some r → (∀ i : Int32, gm_Go l F dd m_Md_work a A 423 ([some (.ref a), some (.int n), some (.int st), some (.int set), some (.int res), x5, some (.int y6), some (.int i), x8, x9, x10, x11]) [] (upd ρ 43 r, gm_up τ 38 K) P) → gm_Go l F dd m_Md_work a A 368 ([some (.ref a), some (.int n), some (.int st), some (.int set), some (.int res), x5, some (.int y6), some (.int i), x8, x9, x10, x11]) [] (upd ρ 43 x, gm_up τ 38 K) P := by
  intro m
  induction m with
  | zero => intro i x hk _; cases hk
  | succ m ihm =>
    intro i x hk kk
    unfold wk_s at hk
    try dsimp only at hk
    by_cases h1 : τ 14 n.toNatClampNeg ≤ i
    · rw [if_pos h1] at hk
      cases hk
      refine gm_p k_Md_work rfl rfl ?_
      refine gm_p k_Md_work rfl rfl ?_
      refine gm_g k_Md_work rfl rfl rfl rfl ?_
      refine gm_p k_Md_work rfl rfl ?_
      refine gm_ld k_Md_work rfl rfl (gi_in (by assumption)) (by decide) ?_
      refine gm_ic k_Md_work rfl rfl rfl (fun hc376 => ?_) (fun hc376 => ?_)
      · (try dsimp only at hc376)
        exact kk _
      · (try dsimp only at hc376)
        (exfalso; simp_all [-Int32.not_le, -Int32.not_lt, gm_up_same, gm_up_ne, upd_eq]; done)
    · rw [if_neg h1] at hk
      by_cases g1 : gi (26 * n + i) 182 = true
      · rw [if_pos g1] at hk
        by_cases g2 : gi (τ 15 (26 * n + i).toNatClampNeg) 26 = true
        · rw [if_pos g2] at hk
          by_cases h2 : K (τ 15 (26 * n + i).toNatClampNeg).toNatClampNeg = 1
          · rw [if_pos h2] at hk
            refine gm_p k_Md_work rfl rfl ?_
            refine gm_p k_Md_work rfl rfl ?_
            refine gm_g k_Md_work rfl rfl rfl rfl ?_
            refine gm_p k_Md_work rfl rfl ?_
            refine gm_ld k_Md_work rfl rfl (gi_in (by assumption)) (by decide) ?_
            refine gm_ic k_Md_work rfl rfl rfl (fun hc376 => ?_) (fun hc376 => ?_)
            · (try dsimp only at hc376)
              (exfalso; simp_all [-Int32.not_le, -Int32.not_lt, gm_up_same, gm_up_ne, upd_eq]; done)
            · (try dsimp only at hc376)
              refine gm_p k_Md_work rfl rfl ?_
              refine gm_p k_Md_work rfl rfl ?_
              refine gm_g k_Md_work rfl rfl rfl rfl ?_
              refine gm_p k_Md_work rfl rfl ?_
              refine gm_g k_Md_work rfl rfl rfl rfl ?_
              refine gm_p k_Md_work rfl rfl ?_
              refine gm_g k_Md_work rfl rfl rfl rfl ?_
              refine gm_p k_Md_work rfl rfl ?_
              refine gm_p k_Md_work rfl rfl ?_
              refine gm_p k_Md_work rfl rfl ?_
              refine gm_p k_Md_work rfl rfl ?_
              refine gm_p k_Md_work rfl rfl ?_
              refine gm_ld k_Md_work rfl rfl (gi_in (by assumption)) (by decide) ?_
              refine gm_ld k_Md_work rfl rfl (gi_in (by assumption)) (by decide) ?_
              refine gm_p k_Md_work rfl rfl ?_
              refine gm_ic k_Md_work rfl rfl rfl (fun hc402 => ?_) (fun hc402 => ?_)
              · (try dsimp only at hc402)
                (exfalso; simp_all [-Int32.not_le, -Int32.not_lt, gm_up_same, gm_up_ne, upd_eq]; done)
              · (try dsimp only at hc402)
                refine gm_p k_Md_work rfl rfl ?_
                refine gm_p k_Md_work rfl rfl ?_
                refine gm_p k_Md_work rfl rfl ?_
                refine gm_j k_Md_work rfl rfl ?_
                refine gm_p k_Md_work rfl rfl ?_
                refine gm_pt k_Md_work rfl rfl rfl trivial (by decide) rfl ?_
                simp only [upd_upd, upd_eq]
                refine gm_p k_Md_work rfl rfl ?_
                refine gm_j k_Md_work rfl rfl ?_
                exact ihm _ _ hk kk
          · rw [if_neg h2] at hk
            refine gm_p k_Md_work rfl rfl ?_
            refine gm_p k_Md_work rfl rfl ?_
            refine gm_g k_Md_work rfl rfl rfl rfl ?_
            refine gm_p k_Md_work rfl rfl ?_
            refine gm_ld k_Md_work rfl rfl (gi_in (by assumption)) (by decide) ?_
            refine gm_ic k_Md_work rfl rfl rfl (fun hc376 => ?_) (fun hc376 => ?_)
            · (try dsimp only at hc376)
              (exfalso; simp_all [-Int32.not_le, -Int32.not_lt, gm_up_same, gm_up_ne, upd_eq]; done)
            · (try dsimp only at hc376)
              refine gm_p k_Md_work rfl rfl ?_
              refine gm_p k_Md_work rfl rfl ?_
              refine gm_g k_Md_work rfl rfl rfl rfl ?_
              refine gm_p k_Md_work rfl rfl ?_
              refine gm_g k_Md_work rfl rfl rfl rfl ?_
              refine gm_p k_Md_work rfl rfl ?_
              refine gm_g k_Md_work rfl rfl rfl rfl ?_
              refine gm_p k_Md_work rfl rfl ?_
              refine gm_p k_Md_work rfl rfl ?_
              refine gm_p k_Md_work rfl rfl ?_
              refine gm_p k_Md_work rfl rfl ?_
              refine gm_p k_Md_work rfl rfl ?_
              refine gm_ld k_Md_work rfl rfl (gi_in (by assumption)) (by decide) ?_
              refine gm_ld k_Md_work rfl rfl (gi_in (by assumption)) (by decide) ?_
              refine gm_p k_Md_work rfl rfl ?_
              refine gm_ic k_Md_work rfl rfl rfl (fun hc402 => ?_) (fun hc402 => ?_)
              · (try dsimp only at hc402)
                refine gm_p k_Md_work rfl rfl ?_
                refine gm_p k_Md_work rfl rfl ?_
                refine gm_pt k_Md_work rfl rfl rfl trivial (by decide) rfl ?_
                simp only [upd_upd, upd_eq]
                refine gm_p k_Md_work rfl rfl ?_
                refine gm_j k_Md_work rfl rfl ?_
                exact ihm _ _ hk kk
              · (try dsimp only at hc402)
                (exfalso; simp_all [-Int32.not_le, -Int32.not_lt, gm_up_same, gm_up_ne, upd_eq]; done)
        · rw [if_neg g2] at hk
          cases hk
      · rw [if_neg g1] at hk
        cases hk
theorem wk_l1e {x6 x7 x8 x9 x10 x11 : Option Value} {K' : wk_K} (hz : wk_z 27 0 (τ 38) = some K') (kk : ∀ i : Int32, gm_Go l F dd m_Md_work a A 69 ([some (.ref a), some (.int n), some (.int st), some (.int set), some (.int res), some (.int i), x6, x7, x8, x9, x10, x11]) [] (ρ, gm_up τ 38 K') P) : gm_Go l F dd m_Md_work a A 48 ([some (.ref a), some (.int n), some (.int st), some (.int set), some (.int res), some (.int 0), x6, x7, x8, x9, x10, x11]) [] (ρ, τ) P := by
  have h := wk_l1 _ _ _ hz kk
  rw [gm_up_id] at h
  exact h
theorem wk_l6e {y6 : Int32} {x5 x8 x9 x10 x11 : Option Value} {K : wk_K} (gn : gi n 7 = true) {r : Int32} (h0 : ρ 43 = 0) (hk : wk_s (τ 15) n (τ 14 n.toNatClampNeg) K 27 0 0 = some r) (kk : ∀ i : Int32, gm_Go l F dd m_Md_work a A 423 ([some (.ref a), some (.int n), some (.int st), some (.int set), some (.int res), x5, some (.int y6), some (.int i), x8, x9, x10, x11]) [] (upd ρ 43 r, gm_up τ 38 K) P) : gm_Go l F dd m_Md_work a A 368 ([some (.ref a), some (.int n), some (.int st), some (.int set), some (.int res), x5, some (.int y6), some (.int 0), x8, x9, x10, x11]) [] (ρ, gm_up τ 38 K) P := by
  have h := wk_l6 gn _ _ _ hk kk
  rw [show upd ρ 43 0 = ρ from by rw [← h0]; exact upd_self] at h
  exact h
def wk_R (σ σ' : gm_S) : Prop := (∀ k, k < 39 ∨ 43 < k → σ'.1 k = σ.1 k) ∧ ∀ k, k ≠ 38 → σ'.2 k = σ.2 k
def wk1 (T : mw_A) (N : Nat) (n st set res S : Int32) : Option gw_V := match wk_z 27 0 (T 38) with
  | none => none
  | some K0 => match wk_i (T 13) n (T 12 n.toNatClampNeg) set 27 0 K0 with
    | none => none
    | some K1 => match wk_f (mw T S N) (T 15) (T 16 n.toNatClampNeg) res n (T 14 n.toNatClampNeg) 28 1 K1 with
      | none => none
      | some K2 => match wk_c (T 15) n (T 14 n.toNatClampNeg) K2 27 0 with
        | none => none
        | some r => if r = 0 then (match gw T S N (T 16 n.toNatClampNeg) res K2 0 0 with
            | none => none
            | some v => if v.2.2 = 0 then (match wk_s (T 15) n (T 14 n.toNatClampNeg) K2 27 0 0 with
                | none => none
                | some x => if v.1 = 0 then some (0, -3, x) else some (0, v.2.1, x)) else some (v.2.2, st, 0)) else some (1, st, 0)
/-- a tick's work: how, what stands, what came out -/
def wk (T : mw_A) (N : Nat) (n st set : Int32) : Option gw_V := if gi n 7 = true then (if st = -3 then some (0, st, 0) else if st = -2 then wk1 T N n st set 0 0 else wk1 T N n st set 1 st) else none
set_option maxRecDepth 100000 in
theorem c_Md_work {σ : gm_S} {N : Nat} {w : gw_V} (hD : 3 * N + 7 ≤ dd) (hp : wk σ.2 N n st set = some w) : gm_Has l F (dd + 1) m_Md_work a A [.int n, .int st, .int set] σ (fun v σ' => v = some (.int w.1) ∧ σ'.1 42 = w.2.1 ∧ σ'.1 43 = w.2.2 ∧ wk_R σ σ') := by
  refine gm_meth (k := 8) (L := [some (.ref a), some (.int n), some (.int st), some (.int set), none, none, none, none, none, none, none, none]) pn_Md rfl (Nat.le_of_ble_eq_true rfl) ?_
  unfold wk at hp
  by_cases gn : gi n 7 = true
  · rw [if_pos gn] at hp
    by_cases h1 : st = -3
    · rw [if_pos h1] at hp
      cases hp
      refine gm_p k_Md_work rfl rfl ?_
      refine gm_p k_Md_work rfl rfl ?_
      refine gm_pt k_Md_work rfl rfl rfl trivial (by decide) rfl ?_
      refine gm_p k_Md_work rfl rfl ?_
      refine gm_p k_Md_work rfl rfl ?_
      refine gm_pt k_Md_work rfl rfl rfl trivial (by decide) rfl ?_
      refine gm_p k_Md_work rfl rfl ?_
      refine gm_p k_Md_work rfl rfl ?_
      refine gm_ic k_Md_work rfl rfl rfl (fun hc13 => ?_) (fun hc13 => ?_)
      · (try dsimp only at hc13)
        (exfalso; simp_all [-Int32.not_le, -Int32.not_lt, gm_up_same, gm_up_ne, upd_eq, gw_r40, gw_r41]; done)
      · (try dsimp only at hc13)
        refine gm_p k_Md_work rfl rfl ?_
        exact gm_ret (v := some (.int _)) k_Md_work rfl rfl trivial rfl ⟨rfl, rfl, rfl, (by refine ⟨fun k hk => ?_, fun k hk => rfl⟩ <;> dsimp only [gw_st] <;> (repeat rw [upd_ne (by omega)]))⟩
    · rw [if_neg h1] at hp
      by_cases h2 : st = -2
      · rw [if_pos h2] at hp
        unfold wk1 at hp
        cases hz : wk_z 27 0 (σ.2 38) with
        | none =>
          rw [hz] at hp
          cases hp
        | some K0 =>
          rw [hz] at hp
          try dsimp only at hp
          cases hi : wk_i (σ.2 13) n (σ.2 12 n.toNatClampNeg) set 27 0 K0 with
          | none =>
            rw [hi] at hp
            cases hp
          | some K1 =>
            rw [hi] at hp
            try dsimp only at hp
            cases hf : wk_f (mw σ.2 0 N) (σ.2 15) (σ.2 16 n.toNatClampNeg) 0 n (σ.2 14 n.toNatClampNeg) 28 1 K1 with
            | none =>
              rw [hf] at hp
              cases hp
            | some K2 =>
              rw [hf] at hp
              try dsimp only at hp
              cases hc : wk_c (σ.2 15) n (σ.2 14 n.toNatClampNeg) K2 27 0 with
              | none =>
                rw [hc] at hp
                cases hp
              | some r =>
                rw [hc] at hp
                try dsimp only at hp
                by_cases h5 : r = 0
                · rw [if_pos h5] at hp
                  cases hg : gw σ.2 0 N (σ.2 16 n.toNatClampNeg) 0 K2 0 0 with
                  | none =>
                    rw [hg] at hp
                    cases hp
                  | some v =>
                    rw [hg] at hp
                    try dsimp only at hp
                    by_cases h6 : v.2.2 = 0
                    · rw [if_pos h6] at hp
                      cases hs : wk_s (σ.2 15) n (σ.2 14 n.toNatClampNeg) K2 27 0 0 with
                      | none =>
                        rw [hs] at hp
                        cases hp
                      | some x =>
                        rw [hs] at hp
                        try dsimp only at hp
                        by_cases h7 : v.1 = 0
                        · rw [if_pos h7] at hp
                          cases hp
                          refine gm_p k_Md_work rfl rfl ?_
                          refine gm_p k_Md_work rfl rfl ?_
                          refine gm_pt k_Md_work rfl rfl rfl trivial (by decide) rfl ?_
                          refine gm_p k_Md_work rfl rfl ?_
                          refine gm_p k_Md_work rfl rfl ?_
                          refine gm_pt k_Md_work rfl rfl rfl trivial (by decide) rfl ?_
                          refine gm_p k_Md_work rfl rfl ?_
                          refine gm_p k_Md_work rfl rfl ?_
                          refine gm_ic k_Md_work rfl rfl rfl (fun hc13 => ?_) (fun hc13 => ?_)
                          · (try dsimp only at hc13)
                            refine gm_p k_Md_work rfl rfl ?_
                            refine gm_p k_Md_work rfl rfl ?_
                            refine gm_ic k_Md_work rfl rfl rfl (fun hc21 => ?_) (fun hc21 => ?_)
                            · (try dsimp only at hc21)
                              refine gm_p k_Md_work rfl rfl ?_
                              refine gm_p k_Md_work rfl rfl ?_
                              refine gm_p k_Md_work rfl rfl ?_
                              refine gm_p k_Md_work rfl rfl ?_
                              refine gm_if k_Md_work rfl rfl rfl (fun hc34 => ?_) (fun hc34 => ?_)
                              · (try dsimp only at hc34)
                                refine gm_p k_Md_work rfl rfl ?_
                                refine gm_pt k_Md_work rfl rfl rfl trivial (by decide) rfl ?_
                                refine gm_p k_Md_work rfl rfl ?_
                                refine gm_p k_Md_work rfl rfl ?_
                                refine wk_l1e hz (fun i1 => ?_)
                                refine gm_p k_Md_work rfl rfl ?_
                                refine gm_p k_Md_work rfl rfl ?_
                                refine wk_l2 gn _ _ _ hi (fun i2 => ?_)
                                refine gm_p k_Md_work rfl rfl ?_
                                refine gm_p k_Md_work rfl rfl ?_
                                refine wk_l4 (c_Md_mw N) (by omega) (fun _ _ _ => rfl) rfl (Nat.zero_le _) gn _ _ _ _ _ _ _ _ _ hf (fun x6 x7 x8 x9 x10 x11 i3 => ?_)
                                refine gm_p k_Md_work rfl rfl ?_
                                refine gm_p k_Md_work rfl rfl ?_
                                refine wk_l5 gn _ _ hc ⟨fun _ i5 => ?_, fun h => absurd h5 h⟩
                                refine gm_p k_Md_work rfl rfl ?_
                                refine gm_p k_Md_work rfl rfl ?_
                                refine gm_pt k_Md_work rfl rfl rfl trivial (by decide) rfl ?_
                                refine gm_p k_Md_work rfl rfl ?_
                                refine gm_p k_Md_work rfl rfl ?_
                                refine gm_pt k_Md_work rfl rfl rfl trivial (by decide) rfl ?_
                                refine gm_p k_Md_work rfl rfl ?_
                                refine gm_p k_Md_work rfl rfl ?_
                                refine gm_g k_Md_work rfl rfl rfl rfl ?_
                                refine gm_p k_Md_work rfl rfl ?_
                                refine gm_ld k_Md_work rfl rfl (gi_in (by assumption)) (by decide) ?_
                                refine gm_p k_Md_work rfl rfl ?_
                                refine gm_ivE (M' := m_Md_go) (As := [.int (σ.2 16 n.toNatClampNeg), .int 0]) k_Md_work rfl rfl rfl rfl rfl rfl (Nat.le_of_ble_eq_true rfl) (c_Md_gw N _ _ _ _ _ (by omega) (mw_hT (σ := (_, σ.2)) (fun _ _ _ => rfl)) rfl hg) ?_
                                refine gm_p k_Md_work rfl rfl ?_
                                refine gm_p k_Md_work rfl rfl ?_
                                refine gm_g k_Md_work rfl rfl rfl rfl ?_
                                refine gm_if k_Md_work rfl rfl rfl (fun hc339 => ?_) (fun hc339 => ?_)
                                · (try dsimp only at hc339)
                                  refine gm_p k_Md_work rfl rfl ?_
                                  refine gm_p k_Md_work rfl rfl ?_
                                  refine gm_if k_Md_work rfl rfl rfl (fun hc350 => ?_) (fun hc350 => ?_)
                                  · (try dsimp only at hc350)
                                    (exfalso; simp_all [-Int32.not_le, -Int32.not_lt, gm_up_same, gm_up_ne, upd_eq, gw_r40, gw_r41]; done)
                                  · (try dsimp only at hc350)
                                    refine gm_p k_Md_work rfl rfl ?_
                                    refine gm_j k_Md_work rfl rfl ?_
                                    refine gm_pt k_Md_work rfl rfl rfl trivial (by decide) rfl ?_
                                    refine gm_p k_Md_work rfl rfl ?_
                                    refine gm_p k_Md_work rfl rfl ?_
                                    refine wk_l6e gn rfl hs (fun i6 => ?_)
                                    refine gm_p k_Md_work rfl rfl ?_
                                    exact gm_ret (v := some (.int _)) k_Md_work rfl rfl trivial rfl ⟨rfl, rfl, rfl, (by refine ⟨fun k hk => ?_, fun k hk => if_neg hk⟩ <;> dsimp only [gw_st] <;> (repeat rw [upd_ne (by omega)]))⟩
                                · (try dsimp only at hc339)
                                  (exfalso; simp_all [-Int32.not_le, -Int32.not_lt, gm_up_same, gm_up_ne, upd_eq, gw_r40, gw_r41]; done)
                              · (try dsimp only at hc34)
                                (exfalso; simp_all [-Int32.not_le, -Int32.not_lt, gm_up_same, gm_up_ne, upd_eq, gw_r40, gw_r41]; done)
                            · (try dsimp only at hc21)
                              (exfalso; simp_all [-Int32.not_le, -Int32.not_lt, gm_up_same, gm_up_ne, upd_eq, gw_r40, gw_r41]; done)
                          · (try dsimp only at hc13)
                            (exfalso; simp_all [-Int32.not_le, -Int32.not_lt, gm_up_same, gm_up_ne, upd_eq, gw_r40, gw_r41]; done)
                        · rw [if_neg h7] at hp
                          cases hp
                          refine gm_p k_Md_work rfl rfl ?_
                          refine gm_p k_Md_work rfl rfl ?_
                          refine gm_pt k_Md_work rfl rfl rfl trivial (by decide) rfl ?_
                          refine gm_p k_Md_work rfl rfl ?_
                          refine gm_p k_Md_work rfl rfl ?_
                          refine gm_pt k_Md_work rfl rfl rfl trivial (by decide) rfl ?_
                          refine gm_p k_Md_work rfl rfl ?_
                          refine gm_p k_Md_work rfl rfl ?_
                          refine gm_ic k_Md_work rfl rfl rfl (fun hc13 => ?_) (fun hc13 => ?_)
                          · (try dsimp only at hc13)
                            refine gm_p k_Md_work rfl rfl ?_
                            refine gm_p k_Md_work rfl rfl ?_
                            refine gm_ic k_Md_work rfl rfl rfl (fun hc21 => ?_) (fun hc21 => ?_)
                            · (try dsimp only at hc21)
                              refine gm_p k_Md_work rfl rfl ?_
                              refine gm_p k_Md_work rfl rfl ?_
                              refine gm_p k_Md_work rfl rfl ?_
                              refine gm_p k_Md_work rfl rfl ?_
                              refine gm_if k_Md_work rfl rfl rfl (fun hc34 => ?_) (fun hc34 => ?_)
                              · (try dsimp only at hc34)
                                refine gm_p k_Md_work rfl rfl ?_
                                refine gm_pt k_Md_work rfl rfl rfl trivial (by decide) rfl ?_
                                refine gm_p k_Md_work rfl rfl ?_
                                refine gm_p k_Md_work rfl rfl ?_
                                refine wk_l1e hz (fun i1 => ?_)
                                refine gm_p k_Md_work rfl rfl ?_
                                refine gm_p k_Md_work rfl rfl ?_
                                refine wk_l2 gn _ _ _ hi (fun i2 => ?_)
                                refine gm_p k_Md_work rfl rfl ?_
                                refine gm_p k_Md_work rfl rfl ?_
                                refine wk_l4 (c_Md_mw N) (by omega) (fun _ _ _ => rfl) rfl (Nat.zero_le _) gn _ _ _ _ _ _ _ _ _ hf (fun x6 x7 x8 x9 x10 x11 i3 => ?_)
                                refine gm_p k_Md_work rfl rfl ?_
                                refine gm_p k_Md_work rfl rfl ?_
                                refine wk_l5 gn _ _ hc ⟨fun _ i5 => ?_, fun h => absurd h5 h⟩
                                refine gm_p k_Md_work rfl rfl ?_
                                refine gm_p k_Md_work rfl rfl ?_
                                refine gm_pt k_Md_work rfl rfl rfl trivial (by decide) rfl ?_
                                refine gm_p k_Md_work rfl rfl ?_
                                refine gm_p k_Md_work rfl rfl ?_
                                refine gm_pt k_Md_work rfl rfl rfl trivial (by decide) rfl ?_
                                refine gm_p k_Md_work rfl rfl ?_
                                refine gm_p k_Md_work rfl rfl ?_
                                refine gm_g k_Md_work rfl rfl rfl rfl ?_
                                refine gm_p k_Md_work rfl rfl ?_
                                refine gm_ld k_Md_work rfl rfl (gi_in (by assumption)) (by decide) ?_
                                refine gm_p k_Md_work rfl rfl ?_
                                refine gm_ivE (M' := m_Md_go) (As := [.int (σ.2 16 n.toNatClampNeg), .int 0]) k_Md_work rfl rfl rfl rfl rfl rfl (Nat.le_of_ble_eq_true rfl) (c_Md_gw N _ _ _ _ _ (by omega) (mw_hT (σ := (_, σ.2)) (fun _ _ _ => rfl)) rfl hg) ?_
                                refine gm_p k_Md_work rfl rfl ?_
                                refine gm_p k_Md_work rfl rfl ?_
                                refine gm_g k_Md_work rfl rfl rfl rfl ?_
                                refine gm_if k_Md_work rfl rfl rfl (fun hc339 => ?_) (fun hc339 => ?_)
                                · (try dsimp only at hc339)
                                  refine gm_p k_Md_work rfl rfl ?_
                                  refine gm_p k_Md_work rfl rfl ?_
                                  refine gm_if k_Md_work rfl rfl rfl (fun hc350 => ?_) (fun hc350 => ?_)
                                  · (try dsimp only at hc350)
                                    refine gm_p k_Md_work rfl rfl ?_
                                    refine gm_g k_Md_work rfl rfl rfl rfl ?_
                                    refine gm_pt k_Md_work rfl rfl rfl trivial (by decide) rfl ?_
                                    refine gm_p k_Md_work rfl rfl ?_
                                    refine gm_p k_Md_work rfl rfl ?_
                                    refine wk_l6e gn rfl hs (fun i6 => ?_)
                                    refine gm_p k_Md_work rfl rfl ?_
                                    exact gm_ret (v := some (.int _)) k_Md_work rfl rfl trivial rfl ⟨rfl, rfl, rfl, (by refine ⟨fun k hk => ?_, fun k hk => if_neg hk⟩ <;> dsimp only [gw_st] <;> (repeat rw [upd_ne (by omega)]))⟩
                                  · (try dsimp only at hc350)
                                    (exfalso; simp_all [-Int32.not_le, -Int32.not_lt, gm_up_same, gm_up_ne, upd_eq, gw_r40, gw_r41]; done)
                                · (try dsimp only at hc339)
                                  (exfalso; simp_all [-Int32.not_le, -Int32.not_lt, gm_up_same, gm_up_ne, upd_eq, gw_r40, gw_r41]; done)
                              · (try dsimp only at hc34)
                                (exfalso; simp_all [-Int32.not_le, -Int32.not_lt, gm_up_same, gm_up_ne, upd_eq, gw_r40, gw_r41]; done)
                            · (try dsimp only at hc21)
                              (exfalso; simp_all [-Int32.not_le, -Int32.not_lt, gm_up_same, gm_up_ne, upd_eq, gw_r40, gw_r41]; done)
                          · (try dsimp only at hc13)
                            (exfalso; simp_all [-Int32.not_le, -Int32.not_lt, gm_up_same, gm_up_ne, upd_eq, gw_r40, gw_r41]; done)
                    · rw [if_neg h6] at hp
                      cases hp
                      refine gm_p k_Md_work rfl rfl ?_
                      refine gm_p k_Md_work rfl rfl ?_
                      refine gm_pt k_Md_work rfl rfl rfl trivial (by decide) rfl ?_
                      refine gm_p k_Md_work rfl rfl ?_
                      refine gm_p k_Md_work rfl rfl ?_
                      refine gm_pt k_Md_work rfl rfl rfl trivial (by decide) rfl ?_
                      refine gm_p k_Md_work rfl rfl ?_
                      refine gm_p k_Md_work rfl rfl ?_
                      refine gm_ic k_Md_work rfl rfl rfl (fun hc13 => ?_) (fun hc13 => ?_)
                      · (try dsimp only at hc13)
                        refine gm_p k_Md_work rfl rfl ?_
                        refine gm_p k_Md_work rfl rfl ?_
                        refine gm_ic k_Md_work rfl rfl rfl (fun hc21 => ?_) (fun hc21 => ?_)
                        · (try dsimp only at hc21)
                          refine gm_p k_Md_work rfl rfl ?_
                          refine gm_p k_Md_work rfl rfl ?_
                          refine gm_p k_Md_work rfl rfl ?_
                          refine gm_p k_Md_work rfl rfl ?_
                          refine gm_if k_Md_work rfl rfl rfl (fun hc34 => ?_) (fun hc34 => ?_)
                          · (try dsimp only at hc34)
                            refine gm_p k_Md_work rfl rfl ?_
                            refine gm_pt k_Md_work rfl rfl rfl trivial (by decide) rfl ?_
                            refine gm_p k_Md_work rfl rfl ?_
                            refine gm_p k_Md_work rfl rfl ?_
                            refine wk_l1e hz (fun i1 => ?_)
                            refine gm_p k_Md_work rfl rfl ?_
                            refine gm_p k_Md_work rfl rfl ?_
                            refine wk_l2 gn _ _ _ hi (fun i2 => ?_)
                            refine gm_p k_Md_work rfl rfl ?_
                            refine gm_p k_Md_work rfl rfl ?_
                            refine wk_l4 (c_Md_mw N) (by omega) (fun _ _ _ => rfl) rfl (Nat.zero_le _) gn _ _ _ _ _ _ _ _ _ hf (fun x6 x7 x8 x9 x10 x11 i3 => ?_)
                            refine gm_p k_Md_work rfl rfl ?_
                            refine gm_p k_Md_work rfl rfl ?_
                            refine wk_l5 gn _ _ hc ⟨fun _ i5 => ?_, fun h => absurd h5 h⟩
                            refine gm_p k_Md_work rfl rfl ?_
                            refine gm_p k_Md_work rfl rfl ?_
                            refine gm_pt k_Md_work rfl rfl rfl trivial (by decide) rfl ?_
                            refine gm_p k_Md_work rfl rfl ?_
                            refine gm_p k_Md_work rfl rfl ?_
                            refine gm_pt k_Md_work rfl rfl rfl trivial (by decide) rfl ?_
                            refine gm_p k_Md_work rfl rfl ?_
                            refine gm_p k_Md_work rfl rfl ?_
                            refine gm_g k_Md_work rfl rfl rfl rfl ?_
                            refine gm_p k_Md_work rfl rfl ?_
                            refine gm_ld k_Md_work rfl rfl (gi_in (by assumption)) (by decide) ?_
                            refine gm_p k_Md_work rfl rfl ?_
                            refine gm_ivE (M' := m_Md_go) (As := [.int (σ.2 16 n.toNatClampNeg), .int 0]) k_Md_work rfl rfl rfl rfl rfl rfl (Nat.le_of_ble_eq_true rfl) (c_Md_gw N _ _ _ _ _ (by omega) (mw_hT (σ := (_, σ.2)) (fun _ _ _ => rfl)) rfl hg) ?_
                            refine gm_p k_Md_work rfl rfl ?_
                            refine gm_p k_Md_work rfl rfl ?_
                            refine gm_g k_Md_work rfl rfl rfl rfl ?_
                            refine gm_if k_Md_work rfl rfl rfl (fun hc339 => ?_) (fun hc339 => ?_)
                            · (try dsimp only at hc339)
                              (exfalso; simp_all [-Int32.not_le, -Int32.not_lt, gm_up_same, gm_up_ne, upd_eq, gw_r40, gw_r41]; done)
                            · (try dsimp only at hc339)
                              refine gm_p k_Md_work rfl rfl ?_
                              refine gm_g k_Md_work rfl rfl rfl rfl ?_
                              exact gm_ret (v := some (.int _)) k_Md_work rfl rfl trivial rfl ⟨rfl, rfl, rfl, (by refine ⟨fun k hk => ?_, fun k hk => if_neg hk⟩ <;> dsimp only [gw_st] <;> (repeat rw [upd_ne (by omega)]))⟩
                          · (try dsimp only at hc34)
                            (exfalso; simp_all [-Int32.not_le, -Int32.not_lt, gm_up_same, gm_up_ne, upd_eq, gw_r40, gw_r41]; done)
                        · (try dsimp only at hc21)
                          (exfalso; simp_all [-Int32.not_le, -Int32.not_lt, gm_up_same, gm_up_ne, upd_eq, gw_r40, gw_r41]; done)
                      · (try dsimp only at hc13)
                        (exfalso; simp_all [-Int32.not_le, -Int32.not_lt, gm_up_same, gm_up_ne, upd_eq, gw_r40, gw_r41]; done)
                · rw [if_neg h5] at hp
                  cases hp
                  refine gm_p k_Md_work rfl rfl ?_
                  refine gm_p k_Md_work rfl rfl ?_
                  refine gm_pt k_Md_work rfl rfl rfl trivial (by decide) rfl ?_
                  refine gm_p k_Md_work rfl rfl ?_
                  refine gm_p k_Md_work rfl rfl ?_
                  refine gm_pt k_Md_work rfl rfl rfl trivial (by decide) rfl ?_
                  refine gm_p k_Md_work rfl rfl ?_
                  refine gm_p k_Md_work rfl rfl ?_
                  refine gm_ic k_Md_work rfl rfl rfl (fun hc13 => ?_) (fun hc13 => ?_)
                  · (try dsimp only at hc13)
                    refine gm_p k_Md_work rfl rfl ?_
                    refine gm_p k_Md_work rfl rfl ?_
                    refine gm_ic k_Md_work rfl rfl rfl (fun hc21 => ?_) (fun hc21 => ?_)
                    · (try dsimp only at hc21)
                      refine gm_p k_Md_work rfl rfl ?_
                      refine gm_p k_Md_work rfl rfl ?_
                      refine gm_p k_Md_work rfl rfl ?_
                      refine gm_p k_Md_work rfl rfl ?_
                      refine gm_if k_Md_work rfl rfl rfl (fun hc34 => ?_) (fun hc34 => ?_)
                      · (try dsimp only at hc34)
                        refine gm_p k_Md_work rfl rfl ?_
                        refine gm_pt k_Md_work rfl rfl rfl trivial (by decide) rfl ?_
                        refine gm_p k_Md_work rfl rfl ?_
                        refine gm_p k_Md_work rfl rfl ?_
                        refine wk_l1e hz (fun i1 => ?_)
                        refine gm_p k_Md_work rfl rfl ?_
                        refine gm_p k_Md_work rfl rfl ?_
                        refine wk_l2 gn _ _ _ hi (fun i2 => ?_)
                        refine gm_p k_Md_work rfl rfl ?_
                        refine gm_p k_Md_work rfl rfl ?_
                        refine wk_l4 (c_Md_mw N) (by omega) (fun _ _ _ => rfl) rfl (Nat.zero_le _) gn _ _ _ _ _ _ _ _ _ hf (fun x6 x7 x8 x9 x10 x11 i3 => ?_)
                        refine gm_p k_Md_work rfl rfl ?_
                        refine gm_p k_Md_work rfl rfl ?_
                        refine wk_l5 gn _ _ hc ⟨fun h => absurd h h5, fun _ => ⟨rfl, rfl, rfl, (by refine ⟨fun k hk => ?_, fun k hk => if_neg hk⟩ <;> dsimp only [gw_st] <;> (repeat rw [upd_ne (by omega)]))⟩⟩
                      · (try dsimp only at hc34)
                        (exfalso; simp_all [-Int32.not_le, -Int32.not_lt, gm_up_same, gm_up_ne, upd_eq, gw_r40, gw_r41]; done)
                    · (try dsimp only at hc21)
                      (exfalso; simp_all [-Int32.not_le, -Int32.not_lt, gm_up_same, gm_up_ne, upd_eq, gw_r40, gw_r41]; done)
                  · (try dsimp only at hc13)
                    (exfalso; simp_all [-Int32.not_le, -Int32.not_lt, gm_up_same, gm_up_ne, upd_eq, gw_r40, gw_r41]; done)
      · rw [if_neg h2] at hp
        unfold wk1 at hp
        cases hz : wk_z 27 0 (σ.2 38) with
        | none =>
          rw [hz] at hp
          cases hp
        | some K0 =>
          rw [hz] at hp
          try dsimp only at hp
          cases hi : wk_i (σ.2 13) n (σ.2 12 n.toNatClampNeg) set 27 0 K0 with
          | none =>
            rw [hi] at hp
            cases hp
          | some K1 =>
            rw [hi] at hp
            try dsimp only at hp
            cases hf : wk_f (mw σ.2 st N) (σ.2 15) (σ.2 16 n.toNatClampNeg) 1 n (σ.2 14 n.toNatClampNeg) 28 1 K1 with
            | none =>
              rw [hf] at hp
              cases hp
            | some K2 =>
              rw [hf] at hp
              try dsimp only at hp
              cases hc : wk_c (σ.2 15) n (σ.2 14 n.toNatClampNeg) K2 27 0 with
              | none =>
                rw [hc] at hp
                cases hp
              | some r =>
                rw [hc] at hp
                try dsimp only at hp
                by_cases h5 : r = 0
                · rw [if_pos h5] at hp
                  cases hg : gw σ.2 st N (σ.2 16 n.toNatClampNeg) 1 K2 0 0 with
                  | none =>
                    rw [hg] at hp
                    cases hp
                  | some v =>
                    rw [hg] at hp
                    try dsimp only at hp
                    by_cases h6 : v.2.2 = 0
                    · rw [if_pos h6] at hp
                      cases hs : wk_s (σ.2 15) n (σ.2 14 n.toNatClampNeg) K2 27 0 0 with
                      | none =>
                        rw [hs] at hp
                        cases hp
                      | some x =>
                        rw [hs] at hp
                        try dsimp only at hp
                        by_cases h7 : v.1 = 0
                        · rw [if_pos h7] at hp
                          cases hp
                          refine gm_p k_Md_work rfl rfl ?_
                          refine gm_p k_Md_work rfl rfl ?_
                          refine gm_pt k_Md_work rfl rfl rfl trivial (by decide) rfl ?_
                          refine gm_p k_Md_work rfl rfl ?_
                          refine gm_p k_Md_work rfl rfl ?_
                          refine gm_pt k_Md_work rfl rfl rfl trivial (by decide) rfl ?_
                          refine gm_p k_Md_work rfl rfl ?_
                          refine gm_p k_Md_work rfl rfl ?_
                          refine gm_ic k_Md_work rfl rfl rfl (fun hc13 => ?_) (fun hc13 => ?_)
                          · (try dsimp only at hc13)
                            refine gm_p k_Md_work rfl rfl ?_
                            refine gm_p k_Md_work rfl rfl ?_
                            refine gm_ic k_Md_work rfl rfl rfl (fun hc21 => ?_) (fun hc21 => ?_)
                            · (try dsimp only at hc21)
                              (exfalso; simp_all [-Int32.not_le, -Int32.not_lt, gm_up_same, gm_up_ne, upd_eq, gw_r40, gw_r41]; done)
                            · (try dsimp only at hc21)
                              refine gm_p k_Md_work rfl rfl ?_
                              refine gm_j k_Md_work rfl rfl ?_
                              refine gm_p k_Md_work rfl rfl ?_
                              refine gm_p k_Md_work rfl rfl ?_
                              refine gm_p k_Md_work rfl rfl ?_
                              refine gm_if k_Md_work rfl rfl rfl (fun hc34 => ?_) (fun hc34 => ?_)
                              · (try dsimp only at hc34)
                                (exfalso; simp_all [-Int32.not_le, -Int32.not_lt, gm_up_same, gm_up_ne, upd_eq, gw_r40, gw_r41]; done)
                              · (try dsimp only at hc34)
                                refine gm_p k_Md_work rfl rfl ?_
                                refine gm_j k_Md_work rfl rfl ?_
                                refine gm_pt k_Md_work rfl rfl rfl trivial (by decide) rfl ?_
                                refine gm_p k_Md_work rfl rfl ?_
                                refine gm_p k_Md_work rfl rfl ?_
                                refine wk_l1e hz (fun i1 => ?_)
                                refine gm_p k_Md_work rfl rfl ?_
                                refine gm_p k_Md_work rfl rfl ?_
                                refine wk_l2 gn _ _ _ hi (fun i2 => ?_)
                                refine gm_p k_Md_work rfl rfl ?_
                                refine gm_p k_Md_work rfl rfl ?_
                                refine wk_l4 (c_Md_mw N) (by omega) (fun _ _ _ => rfl) rfl (Nat.zero_le _) gn _ _ _ _ _ _ _ _ _ hf (fun x6 x7 x8 x9 x10 x11 i3 => ?_)
                                refine gm_p k_Md_work rfl rfl ?_
                                refine gm_p k_Md_work rfl rfl ?_
                                refine wk_l5 gn _ _ hc ⟨fun _ i5 => ?_, fun h => absurd h5 h⟩
                                refine gm_p k_Md_work rfl rfl ?_
                                refine gm_p k_Md_work rfl rfl ?_
                                refine gm_pt k_Md_work rfl rfl rfl trivial (by decide) rfl ?_
                                refine gm_p k_Md_work rfl rfl ?_
                                refine gm_p k_Md_work rfl rfl ?_
                                refine gm_pt k_Md_work rfl rfl rfl trivial (by decide) rfl ?_
                                refine gm_p k_Md_work rfl rfl ?_
                                refine gm_p k_Md_work rfl rfl ?_
                                refine gm_g k_Md_work rfl rfl rfl rfl ?_
                                refine gm_p k_Md_work rfl rfl ?_
                                refine gm_ld k_Md_work rfl rfl (gi_in (by assumption)) (by decide) ?_
                                refine gm_p k_Md_work rfl rfl ?_
                                refine gm_ivE (M' := m_Md_go) (As := [.int (σ.2 16 n.toNatClampNeg), .int 1]) k_Md_work rfl rfl rfl rfl rfl rfl (Nat.le_of_ble_eq_true rfl) (c_Md_gw N _ _ _ _ _ (by omega) (mw_hT (σ := (_, σ.2)) (fun _ _ _ => rfl)) rfl hg) ?_
                                refine gm_p k_Md_work rfl rfl ?_
                                refine gm_p k_Md_work rfl rfl ?_
                                refine gm_g k_Md_work rfl rfl rfl rfl ?_
                                refine gm_if k_Md_work rfl rfl rfl (fun hc339 => ?_) (fun hc339 => ?_)
                                · (try dsimp only at hc339)
                                  refine gm_p k_Md_work rfl rfl ?_
                                  refine gm_p k_Md_work rfl rfl ?_
                                  refine gm_if k_Md_work rfl rfl rfl (fun hc350 => ?_) (fun hc350 => ?_)
                                  · (try dsimp only at hc350)
                                    (exfalso; simp_all [-Int32.not_le, -Int32.not_lt, gm_up_same, gm_up_ne, upd_eq, gw_r40, gw_r41]; done)
                                  · (try dsimp only at hc350)
                                    refine gm_p k_Md_work rfl rfl ?_
                                    refine gm_j k_Md_work rfl rfl ?_
                                    refine gm_pt k_Md_work rfl rfl rfl trivial (by decide) rfl ?_
                                    refine gm_p k_Md_work rfl rfl ?_
                                    refine gm_p k_Md_work rfl rfl ?_
                                    refine wk_l6e gn rfl hs (fun i6 => ?_)
                                    refine gm_p k_Md_work rfl rfl ?_
                                    exact gm_ret (v := some (.int _)) k_Md_work rfl rfl trivial rfl ⟨rfl, rfl, rfl, (by refine ⟨fun k hk => ?_, fun k hk => if_neg hk⟩ <;> dsimp only [gw_st] <;> (repeat rw [upd_ne (by omega)]))⟩
                                · (try dsimp only at hc339)
                                  (exfalso; simp_all [-Int32.not_le, -Int32.not_lt, gm_up_same, gm_up_ne, upd_eq, gw_r40, gw_r41]; done)
                          · (try dsimp only at hc13)
                            (exfalso; simp_all [-Int32.not_le, -Int32.not_lt, gm_up_same, gm_up_ne, upd_eq, gw_r40, gw_r41]; done)
                        · rw [if_neg h7] at hp
                          cases hp
                          refine gm_p k_Md_work rfl rfl ?_
                          refine gm_p k_Md_work rfl rfl ?_
                          refine gm_pt k_Md_work rfl rfl rfl trivial (by decide) rfl ?_
                          refine gm_p k_Md_work rfl rfl ?_
                          refine gm_p k_Md_work rfl rfl ?_
                          refine gm_pt k_Md_work rfl rfl rfl trivial (by decide) rfl ?_
                          refine gm_p k_Md_work rfl rfl ?_
                          refine gm_p k_Md_work rfl rfl ?_
                          refine gm_ic k_Md_work rfl rfl rfl (fun hc13 => ?_) (fun hc13 => ?_)
                          · (try dsimp only at hc13)
                            refine gm_p k_Md_work rfl rfl ?_
                            refine gm_p k_Md_work rfl rfl ?_
                            refine gm_ic k_Md_work rfl rfl rfl (fun hc21 => ?_) (fun hc21 => ?_)
                            · (try dsimp only at hc21)
                              (exfalso; simp_all [-Int32.not_le, -Int32.not_lt, gm_up_same, gm_up_ne, upd_eq, gw_r40, gw_r41]; done)
                            · (try dsimp only at hc21)
                              refine gm_p k_Md_work rfl rfl ?_
                              refine gm_j k_Md_work rfl rfl ?_
                              refine gm_p k_Md_work rfl rfl ?_
                              refine gm_p k_Md_work rfl rfl ?_
                              refine gm_p k_Md_work rfl rfl ?_
                              refine gm_if k_Md_work rfl rfl rfl (fun hc34 => ?_) (fun hc34 => ?_)
                              · (try dsimp only at hc34)
                                (exfalso; simp_all [-Int32.not_le, -Int32.not_lt, gm_up_same, gm_up_ne, upd_eq, gw_r40, gw_r41]; done)
                              · (try dsimp only at hc34)
                                refine gm_p k_Md_work rfl rfl ?_
                                refine gm_j k_Md_work rfl rfl ?_
                                refine gm_pt k_Md_work rfl rfl rfl trivial (by decide) rfl ?_
                                refine gm_p k_Md_work rfl rfl ?_
                                refine gm_p k_Md_work rfl rfl ?_
                                refine wk_l1e hz (fun i1 => ?_)
                                refine gm_p k_Md_work rfl rfl ?_
                                refine gm_p k_Md_work rfl rfl ?_
                                refine wk_l2 gn _ _ _ hi (fun i2 => ?_)
                                refine gm_p k_Md_work rfl rfl ?_
                                refine gm_p k_Md_work rfl rfl ?_
                                refine wk_l4 (c_Md_mw N) (by omega) (fun _ _ _ => rfl) rfl (Nat.zero_le _) gn _ _ _ _ _ _ _ _ _ hf (fun x6 x7 x8 x9 x10 x11 i3 => ?_)
                                refine gm_p k_Md_work rfl rfl ?_
                                refine gm_p k_Md_work rfl rfl ?_
                                refine wk_l5 gn _ _ hc ⟨fun _ i5 => ?_, fun h => absurd h5 h⟩
                                refine gm_p k_Md_work rfl rfl ?_
                                refine gm_p k_Md_work rfl rfl ?_
                                refine gm_pt k_Md_work rfl rfl rfl trivial (by decide) rfl ?_
                                refine gm_p k_Md_work rfl rfl ?_
                                refine gm_p k_Md_work rfl rfl ?_
                                refine gm_pt k_Md_work rfl rfl rfl trivial (by decide) rfl ?_
                                refine gm_p k_Md_work rfl rfl ?_
                                refine gm_p k_Md_work rfl rfl ?_
                                refine gm_g k_Md_work rfl rfl rfl rfl ?_
                                refine gm_p k_Md_work rfl rfl ?_
                                refine gm_ld k_Md_work rfl rfl (gi_in (by assumption)) (by decide) ?_
                                refine gm_p k_Md_work rfl rfl ?_
                                refine gm_ivE (M' := m_Md_go) (As := [.int (σ.2 16 n.toNatClampNeg), .int 1]) k_Md_work rfl rfl rfl rfl rfl rfl (Nat.le_of_ble_eq_true rfl) (c_Md_gw N _ _ _ _ _ (by omega) (mw_hT (σ := (_, σ.2)) (fun _ _ _ => rfl)) rfl hg) ?_
                                refine gm_p k_Md_work rfl rfl ?_
                                refine gm_p k_Md_work rfl rfl ?_
                                refine gm_g k_Md_work rfl rfl rfl rfl ?_
                                refine gm_if k_Md_work rfl rfl rfl (fun hc339 => ?_) (fun hc339 => ?_)
                                · (try dsimp only at hc339)
                                  refine gm_p k_Md_work rfl rfl ?_
                                  refine gm_p k_Md_work rfl rfl ?_
                                  refine gm_if k_Md_work rfl rfl rfl (fun hc350 => ?_) (fun hc350 => ?_)
                                  · (try dsimp only at hc350)
                                    refine gm_p k_Md_work rfl rfl ?_
                                    refine gm_g k_Md_work rfl rfl rfl rfl ?_
                                    refine gm_pt k_Md_work rfl rfl rfl trivial (by decide) rfl ?_
                                    refine gm_p k_Md_work rfl rfl ?_
                                    refine gm_p k_Md_work rfl rfl ?_
                                    refine wk_l6e gn rfl hs (fun i6 => ?_)
                                    refine gm_p k_Md_work rfl rfl ?_
                                    exact gm_ret (v := some (.int _)) k_Md_work rfl rfl trivial rfl ⟨rfl, rfl, rfl, (by refine ⟨fun k hk => ?_, fun k hk => if_neg hk⟩ <;> dsimp only [gw_st] <;> (repeat rw [upd_ne (by omega)]))⟩
                                  · (try dsimp only at hc350)
                                    (exfalso; simp_all [-Int32.not_le, -Int32.not_lt, gm_up_same, gm_up_ne, upd_eq, gw_r40, gw_r41]; done)
                                · (try dsimp only at hc339)
                                  (exfalso; simp_all [-Int32.not_le, -Int32.not_lt, gm_up_same, gm_up_ne, upd_eq, gw_r40, gw_r41]; done)
                          · (try dsimp only at hc13)
                            (exfalso; simp_all [-Int32.not_le, -Int32.not_lt, gm_up_same, gm_up_ne, upd_eq, gw_r40, gw_r41]; done)
                    · rw [if_neg h6] at hp
                      cases hp
                      refine gm_p k_Md_work rfl rfl ?_
                      refine gm_p k_Md_work rfl rfl ?_
                      refine gm_pt k_Md_work rfl rfl rfl trivial (by decide) rfl ?_
                      refine gm_p k_Md_work rfl rfl ?_
                      refine gm_p k_Md_work rfl rfl ?_
                      refine gm_pt k_Md_work rfl rfl rfl trivial (by decide) rfl ?_
                      refine gm_p k_Md_work rfl rfl ?_
                      refine gm_p k_Md_work rfl rfl ?_
                      refine gm_ic k_Md_work rfl rfl rfl (fun hc13 => ?_) (fun hc13 => ?_)
                      · (try dsimp only at hc13)
                        refine gm_p k_Md_work rfl rfl ?_
                        refine gm_p k_Md_work rfl rfl ?_
                        refine gm_ic k_Md_work rfl rfl rfl (fun hc21 => ?_) (fun hc21 => ?_)
                        · (try dsimp only at hc21)
                          (exfalso; simp_all [-Int32.not_le, -Int32.not_lt, gm_up_same, gm_up_ne, upd_eq, gw_r40, gw_r41]; done)
                        · (try dsimp only at hc21)
                          refine gm_p k_Md_work rfl rfl ?_
                          refine gm_j k_Md_work rfl rfl ?_
                          refine gm_p k_Md_work rfl rfl ?_
                          refine gm_p k_Md_work rfl rfl ?_
                          refine gm_p k_Md_work rfl rfl ?_
                          refine gm_if k_Md_work rfl rfl rfl (fun hc34 => ?_) (fun hc34 => ?_)
                          · (try dsimp only at hc34)
                            (exfalso; simp_all [-Int32.not_le, -Int32.not_lt, gm_up_same, gm_up_ne, upd_eq, gw_r40, gw_r41]; done)
                          · (try dsimp only at hc34)
                            refine gm_p k_Md_work rfl rfl ?_
                            refine gm_j k_Md_work rfl rfl ?_
                            refine gm_pt k_Md_work rfl rfl rfl trivial (by decide) rfl ?_
                            refine gm_p k_Md_work rfl rfl ?_
                            refine gm_p k_Md_work rfl rfl ?_
                            refine wk_l1e hz (fun i1 => ?_)
                            refine gm_p k_Md_work rfl rfl ?_
                            refine gm_p k_Md_work rfl rfl ?_
                            refine wk_l2 gn _ _ _ hi (fun i2 => ?_)
                            refine gm_p k_Md_work rfl rfl ?_
                            refine gm_p k_Md_work rfl rfl ?_
                            refine wk_l4 (c_Md_mw N) (by omega) (fun _ _ _ => rfl) rfl (Nat.zero_le _) gn _ _ _ _ _ _ _ _ _ hf (fun x6 x7 x8 x9 x10 x11 i3 => ?_)
                            refine gm_p k_Md_work rfl rfl ?_
                            refine gm_p k_Md_work rfl rfl ?_
                            refine wk_l5 gn _ _ hc ⟨fun _ i5 => ?_, fun h => absurd h5 h⟩
                            refine gm_p k_Md_work rfl rfl ?_
                            refine gm_p k_Md_work rfl rfl ?_
                            refine gm_pt k_Md_work rfl rfl rfl trivial (by decide) rfl ?_
                            refine gm_p k_Md_work rfl rfl ?_
                            refine gm_p k_Md_work rfl rfl ?_
                            refine gm_pt k_Md_work rfl rfl rfl trivial (by decide) rfl ?_
                            refine gm_p k_Md_work rfl rfl ?_
                            refine gm_p k_Md_work rfl rfl ?_
                            refine gm_g k_Md_work rfl rfl rfl rfl ?_
                            refine gm_p k_Md_work rfl rfl ?_
                            refine gm_ld k_Md_work rfl rfl (gi_in (by assumption)) (by decide) ?_
                            refine gm_p k_Md_work rfl rfl ?_
                            refine gm_ivE (M' := m_Md_go) (As := [.int (σ.2 16 n.toNatClampNeg), .int 1]) k_Md_work rfl rfl rfl rfl rfl rfl (Nat.le_of_ble_eq_true rfl) (c_Md_gw N _ _ _ _ _ (by omega) (mw_hT (σ := (_, σ.2)) (fun _ _ _ => rfl)) rfl hg) ?_
                            refine gm_p k_Md_work rfl rfl ?_
                            refine gm_p k_Md_work rfl rfl ?_
                            refine gm_g k_Md_work rfl rfl rfl rfl ?_
                            refine gm_if k_Md_work rfl rfl rfl (fun hc339 => ?_) (fun hc339 => ?_)
                            · (try dsimp only at hc339)
                              (exfalso; simp_all [-Int32.not_le, -Int32.not_lt, gm_up_same, gm_up_ne, upd_eq, gw_r40, gw_r41]; done)
                            · (try dsimp only at hc339)
                              refine gm_p k_Md_work rfl rfl ?_
                              refine gm_g k_Md_work rfl rfl rfl rfl ?_
                              exact gm_ret (v := some (.int _)) k_Md_work rfl rfl trivial rfl ⟨rfl, rfl, rfl, (by refine ⟨fun k hk => ?_, fun k hk => if_neg hk⟩ <;> dsimp only [gw_st] <;> (repeat rw [upd_ne (by omega)]))⟩
                      · (try dsimp only at hc13)
                        (exfalso; simp_all [-Int32.not_le, -Int32.not_lt, gm_up_same, gm_up_ne, upd_eq, gw_r40, gw_r41]; done)
                · rw [if_neg h5] at hp
                  cases hp
                  refine gm_p k_Md_work rfl rfl ?_
                  refine gm_p k_Md_work rfl rfl ?_
                  refine gm_pt k_Md_work rfl rfl rfl trivial (by decide) rfl ?_
                  refine gm_p k_Md_work rfl rfl ?_
                  refine gm_p k_Md_work rfl rfl ?_
                  refine gm_pt k_Md_work rfl rfl rfl trivial (by decide) rfl ?_
                  refine gm_p k_Md_work rfl rfl ?_
                  refine gm_p k_Md_work rfl rfl ?_
                  refine gm_ic k_Md_work rfl rfl rfl (fun hc13 => ?_) (fun hc13 => ?_)
                  · (try dsimp only at hc13)
                    refine gm_p k_Md_work rfl rfl ?_
                    refine gm_p k_Md_work rfl rfl ?_
                    refine gm_ic k_Md_work rfl rfl rfl (fun hc21 => ?_) (fun hc21 => ?_)
                    · (try dsimp only at hc21)
                      (exfalso; simp_all [-Int32.not_le, -Int32.not_lt, gm_up_same, gm_up_ne, upd_eq, gw_r40, gw_r41]; done)
                    · (try dsimp only at hc21)
                      refine gm_p k_Md_work rfl rfl ?_
                      refine gm_j k_Md_work rfl rfl ?_
                      refine gm_p k_Md_work rfl rfl ?_
                      refine gm_p k_Md_work rfl rfl ?_
                      refine gm_p k_Md_work rfl rfl ?_
                      refine gm_if k_Md_work rfl rfl rfl (fun hc34 => ?_) (fun hc34 => ?_)
                      · (try dsimp only at hc34)
                        (exfalso; simp_all [-Int32.not_le, -Int32.not_lt, gm_up_same, gm_up_ne, upd_eq, gw_r40, gw_r41]; done)
                      · (try dsimp only at hc34)
                        refine gm_p k_Md_work rfl rfl ?_
                        refine gm_j k_Md_work rfl rfl ?_
                        refine gm_pt k_Md_work rfl rfl rfl trivial (by decide) rfl ?_
                        refine gm_p k_Md_work rfl rfl ?_
                        refine gm_p k_Md_work rfl rfl ?_
                        refine wk_l1e hz (fun i1 => ?_)
                        refine gm_p k_Md_work rfl rfl ?_
                        refine gm_p k_Md_work rfl rfl ?_
                        refine wk_l2 gn _ _ _ hi (fun i2 => ?_)
                        refine gm_p k_Md_work rfl rfl ?_
                        refine gm_p k_Md_work rfl rfl ?_
                        refine wk_l4 (c_Md_mw N) (by omega) (fun _ _ _ => rfl) rfl (Nat.zero_le _) gn _ _ _ _ _ _ _ _ _ hf (fun x6 x7 x8 x9 x10 x11 i3 => ?_)
                        refine gm_p k_Md_work rfl rfl ?_
                        refine gm_p k_Md_work rfl rfl ?_
                        refine wk_l5 gn _ _ hc ⟨fun h => absurd h h5, fun _ => ⟨rfl, rfl, rfl, (by refine ⟨fun k hk => ?_, fun k hk => if_neg hk⟩ <;> dsimp only [gw_st] <;> (repeat rw [upd_ne (by omega)]))⟩⟩
                  · (try dsimp only at hc13)
                    (exfalso; simp_all [-Int32.not_le, -Int32.not_lt, gm_up_same, gm_up_ne, upd_eq, gw_r40, gw_r41]; done)
  · rw [if_neg gn] at hp
    cases hp
end WK
