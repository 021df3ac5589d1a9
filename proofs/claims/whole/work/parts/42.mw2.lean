theorem upd_upd {f : Nat → Int32} {k : Nat} {x y : Int32} : upd (upd f k x) k y = upd f k y := by
  funext j
  unfold upd
  by_cases h : j = k <;> simp [h]
theorem upd_self {f : Nat → Int32} {k : Nat} : upd f k (f k) = f := by
  funext j
  unfold upd
  by_cases h : j = k <;> simp [h]
theorem gm_up_up {g : Nat → Nat → Int32} {k : Nat} {x y : Nat → Int32} : gm_up (gm_up g k x) k y = gm_up g k y := by
  funext j
  unfold gm_up
  by_cases h : j = k <;> simp [h]
theorem gm_up_id {g : Nat → Nat → Int32} {k : Nat} : gm_up g k (g k) = g := by
  funext j
  unfold gm_up
  by_cases h : j = k <;> simp [h]
theorem gm_up_same {g : Nat → Nat → Int32} {k : Nat} {x : Nat → Int32} : gm_up g k x k = x := by simp [gm_up]
abbrev mw_F : Type := Bool → Int32 → Int32 → Int32 → (Nat → Int32) → Option Int64
def mw_ml (f : mw_F) (k res : Int32) (K : Nat → Int32) : Option Int64 := match f false k res 0 K with
  | none => none
  | some x => if res = 0 then some x else if q_hasC x 0 = 0 then some x else match f false k 0 0 K with
    | none => none
    | some y => some (q_behind x y)
/-- what is known after a look at a signal of its own -/
def mw_lk (T : mw_A) (f : mw_F) (p res : Int32) (K : Nat → Int32) : Option (Nat → Int32) := if gi p 2600 = true then (if gi (T 21 p.toNatClampNeg) 26 = true then
    match f false (T 23 p.toNatClampNeg) res 0 (upd K (T 21 p.toNatClampNeg).toNatClampNeg 0) with
    | none => none
    | some x => if q_hasS x (T 21 p.toNatClampNeg) = 0 then (match f true (T 23 p.toNatClampNeg) res 1 (upd K (T 21 p.toNatClampNeg).toNatClampNeg 0) with
        | none => none
        | some y => if q_hasS y (T 21 p.toNatClampNeg) = 0 then some (upd K (T 21 p.toNatClampNeg).toNatClampNeg 2) else some (upd K (T 21 p.toNatClampNeg).toNatClampNeg 0))
      else some (upd K (T 21 p.toNatClampNeg).toNatClampNeg 1) else none) else none
def mw_mc (T : mw_A) (f : mw_F) (p res : Int32) (K : Nat → Int32) : Option Int64 := match mw_lk T f p res K with
  | none => none
  | some K1 => match f false (T 23 p.toNatClampNeg) res 0 K1 with
    | none => none
    | some x => some (q_wo x (T 21 p.toNatClampNeg))
def mw_ms (T : mw_A) (S : Int32) (f : mw_F) (p res : Int32) (K : Nat → Int32) : Option Int64 := if gi p 2600 = true then (match mw_fo T S res 2601 (T 23 p.toNatClampNeg) with
  | none => none
  | some k => match f false k res 0 K with
    | none => none
    | some x => if gi k 2600 = true then mw_sq (fun q => f false q 0 0 K) T 2601 (T 24 k.toNatClampNeg) x else none) else none
def mw_mp (T : mw_A) (S : Int32) (f : mw_F) (p res : Int32) (K : Nat → Int32) : Option Int64 := if gi p 2600 = true then mw_pl (fun q => f false q res 0 K) T S res 2601 (T 23 p.toNatClampNeg) 1 else none
def mw_IH (l : Launch) (F : gx_F) (a : Nat) (A : Nat → Nat) (D : Nat) (T : mw_A) (S : Int32) (f : mw_F) : Prop :=
  (∀ (dd : Nat) (p res : Int32) (v : Int64) (σ : gm_S), D ≤ dd → (∀ k, 20 ≤ k → k ≤ 25 → σ.2 k = T k) → σ.1 39 = S → f false p res 0 (σ.2 38) = some v → gm_Has l F dd m_Md_must a A [.int p, .int res] σ (fun w σ' => w = some (.long v) ∧ σ' = σ)) ∧
  (∀ (dd : Nat) (p res sure : Int32) (v : Int64) (σ : gm_S), D ≤ dd → (∀ k, 20 ≤ k → k ≤ 25 → σ.2 k = T k) → σ.1 39 = S → f true p res sure (σ.2 38) = some v → gm_Has l F dd m_Md_can a A [.int p, .int res, .int sure] σ (fun w σ' => w = some (.long v) ∧ σ' = σ))
theorem mw_hT {T : mw_A} {σ : gm_S} {K : Nat → Int32} (hT : ∀ k, 20 ≤ k → k ≤ 25 → σ.2 k = T k) : ∀ k, 20 ≤ k → k ≤ 25 → ((σ.1, gm_up σ.2 38 K) : gm_S).2 k = T k := fun k h1 h2 => (if_neg (by omega)).trans (hT k h1 h2)
theorem mw_ch_c {T U : mw_A} (h : ∀ k, 20 ≤ k → k ≤ 25 → U k = T k) : mw_ch T = mw_ch U := by
  funext S p s
  unfold mw_ch
  rw [h 23 (by decide) (by decide), h 24 (by decide) (by decide), h 25 (by decide) (by decide)]
theorem mw_fo_c {T U : mw_A} (h : ∀ k, 20 ≤ k → k ≤ 25 → U k = T k) : mw_fo T = mw_fo U := by
  funext S res n
  induction n with
  | zero => rfl
  | succ n ih =>
    funext k
    simp only [mw_fo, ih, h 24 (by decide) (by decide), h 25 (by decide) (by decide)]
theorem mw_sq_c {T U : mw_A} (h : ∀ k, 20 ≤ k → k ≤ 25 → U k = T k) : (fun f => mw_sq f T) = (fun f => mw_sq f U) := by
  funext f n
  induction n with
  | zero => rfl
  | succ n ih =>
    funext k al
    simp only [mw_sq, ih, h 24 (by decide) (by decide)]
theorem mw_pl_c {T U : mw_A} (h : ∀ k, 20 ≤ k → k ≤ 25 → U k = T k) : (fun f => mw_pl f T) = (fun f => mw_pl f U) := by
  funext f S res n
  induction n with
  | zero => rfl
  | succ n ih =>
    funext k al
    simp only [mw_pl, ih, h 24 (by decide) (by decide), h 25 (by decide) (by decide)]
section MD3
variable {l : Launch} {F : gx_F} {d D : Nat} {a : Nat} {A : Nat → Nat} {σ : gm_S} {T : mw_A} {S : Int32} {f : mw_F}
theorem c_Md_mustLoop (ih : mw_IH l F a A D T S f) {dd : Nat} {k res : Int32} {v : Int64} (hD : D + 1 ≤ dd) (h3 : 4 ≤ dd) (hT : ∀ k, 20 ≤ k → k ≤ 25 → σ.2 k = T k) (hS : σ.1 39 = S) (hp : mw_ml f k res (σ.2 38) = some v) : gm_Has l F dd m_Md_mustLoop a A [.int k, .int res] σ (fun w σ' => w = some (.long v) ∧ σ' = σ) := by
  obtain ⟨d, rfl⟩ : ∃ d, dd = d + 4 := ⟨dd - 4, by omega⟩
  refine gm_meth (k := 2) (L := [some (.ref a), some (.int k), some (.int res), none, none]) pn_Md rfl (Nat.le_of_ble_eq_true rfl) ?_
  unfold mw_ml at hp
  cases hx : f false k res 0 (σ.2 38) with
  | none =>
    rw [hx] at hp
    cases hp
  | some x =>
    rw [hx] at hp
    dsimp only at hp
    by_cases h1 : res = 0
    · rw [if_pos h1] at hp
      cases hp
      refine gm_p k_Md_mustLoop rfl rfl ?_
      refine gm_p k_Md_mustLoop rfl rfl ?_
      refine gm_p k_Md_mustLoop rfl rfl ?_
      refine gm_ivE (M' := m_Md_must) (As := [.int k, .int res]) k_Md_mustLoop rfl rfl rfl rfl rfl rfl (Nat.le_of_ble_eq_true rfl) (ih.1 _ _ _ _ _ (by omega) hT hS hx) ?_
      refine gm_p k_Md_mustLoop rfl rfl ?_
      refine gm_p k_Md_mustLoop rfl rfl ?_
      refine gm_if k_Md_mustLoop rfl rfl rfl (fun hc8 => ?_) (fun hc8 => ?_)
      · (try dsimp only at hc8)
        refine gm_p k_Md_mustLoop rfl rfl ?_
        exact gm_ret (v := some (.long _)) k_Md_mustLoop rfl rfl trivial rfl ⟨rfl, rfl⟩
      · (try dsimp only at hc8)
        (exfalso; simp_all; done)
    · rw [if_neg h1] at hp
      by_cases h2 : q_hasC x 0 = 0
      · rw [if_pos h2] at hp
        cases hp
        refine gm_p k_Md_mustLoop rfl rfl ?_
        refine gm_p k_Md_mustLoop rfl rfl ?_
        refine gm_p k_Md_mustLoop rfl rfl ?_
        refine gm_ivE (M' := m_Md_must) (As := [.int k, .int res]) k_Md_mustLoop rfl rfl rfl rfl rfl rfl (Nat.le_of_ble_eq_true rfl) (ih.1 _ _ _ _ _ (by omega) hT hS hx) ?_
        refine gm_p k_Md_mustLoop rfl rfl ?_
        refine gm_p k_Md_mustLoop rfl rfl ?_
        refine gm_if k_Md_mustLoop rfl rfl rfl (fun hc8 => ?_) (fun hc8 => ?_)
        · (try dsimp only at hc8)
          (exfalso; simp_all; done)
        · (try dsimp only at hc8)
          refine gm_p k_Md_mustLoop rfl rfl ?_
          refine gm_p k_Md_mustLoop rfl rfl ?_
          refine gm_is (M' := m_Md_hasCode) (As := [.long _, .int 0]) k_Md_mustLoop rfl rfl rfl rfl rfl rfl (Nat.le_of_ble_eq_true rfl) (fun h => c_Md_hasCode _ _ h) ?_
          refine gm_if k_Md_mustLoop rfl rfl rfl (fun hc16 => ?_) (fun hc16 => ?_)
          · (try dsimp only at hc16)
            refine gm_p k_Md_mustLoop rfl rfl ?_
            exact gm_ret (v := some (.long _)) k_Md_mustLoop rfl rfl trivial rfl ⟨rfl, rfl⟩
          · (try dsimp only at hc16)
            (exfalso; simp_all; done)
      · rw [if_neg h2] at hp
        cases hy : f false k 0 0 (σ.2 38) with
        | none =>
          rw [hy] at hp
          cases hp
        | some y =>
          rw [hy] at hp
          dsimp only at hp
          cases hp
          refine gm_p k_Md_mustLoop rfl rfl ?_
          refine gm_p k_Md_mustLoop rfl rfl ?_
          refine gm_p k_Md_mustLoop rfl rfl ?_
          refine gm_ivE (M' := m_Md_must) (As := [.int k, .int res]) k_Md_mustLoop rfl rfl rfl rfl rfl rfl (Nat.le_of_ble_eq_true rfl) (ih.1 _ _ _ _ _ (by omega) hT hS hx) ?_
          refine gm_p k_Md_mustLoop rfl rfl ?_
          refine gm_p k_Md_mustLoop rfl rfl ?_
          refine gm_if k_Md_mustLoop rfl rfl rfl (fun hc8 => ?_) (fun hc8 => ?_)
          · (try dsimp only at hc8)
            (exfalso; simp_all; done)
          · (try dsimp only at hc8)
            refine gm_p k_Md_mustLoop rfl rfl ?_
            refine gm_p k_Md_mustLoop rfl rfl ?_
            refine gm_is (M' := m_Md_hasCode) (As := [.long _, .int 0]) k_Md_mustLoop rfl rfl rfl rfl rfl rfl (Nat.le_of_ble_eq_true rfl) (fun h => c_Md_hasCode _ _ h) ?_
            refine gm_if k_Md_mustLoop rfl rfl rfl (fun hc16 => ?_) (fun hc16 => ?_)
            · (try dsimp only at hc16)
              (exfalso; simp_all; done)
            · (try dsimp only at hc16)
              refine gm_p k_Md_mustLoop rfl rfl ?_
              refine gm_p k_Md_mustLoop rfl rfl ?_
              refine gm_p k_Md_mustLoop rfl rfl ?_
              refine gm_p k_Md_mustLoop rfl rfl ?_
              refine gm_ivE (M' := m_Md_must) (As := [.int k, .int 0]) k_Md_mustLoop rfl rfl rfl rfl rfl rfl (Nat.le_of_ble_eq_true rfl) (ih.1 _ _ _ _ _ (by omega) hT hS hy) ?_
              refine gm_is (M' := m_Md_behind) (As := [.long _, .long _]) k_Md_mustLoop rfl rfl rfl rfl rfl rfl (Nat.le_of_ble_eq_true rfl) (fun h => c_Md_behind _ _ h) ?_
              refine gm_j k_Md_mustLoop rfl rfl ?_
              exact gm_ret (v := some (.long _)) k_Md_mustLoop rfl rfl trivial rfl ⟨rfl, rfl⟩
theorem c_Md_look (ih : mw_IH l F a A D T S f) {dd : Nat} {p res : Int32} {K1 : Nat → Int32} (hD : D + 1 ≤ dd) (h3 : 4 ≤ dd) (hT : ∀ k, 20 ≤ k → k ≤ 25 → σ.2 k = T k) (hS : σ.1 39 = S) (hp : mw_lk T f p res (σ.2 38) = some K1) : gm_Has l F dd m_Md_look a A [.int p, .int res] σ (fun w σ' => w = none ∧ σ' = (σ.1, gm_up σ.2 38 K1)) := by
  obtain ⟨d, rfl⟩ : ∃ d, dd = d + 4 := ⟨dd - 4, by omega⟩
  refine gm_meth (k := 4) (L := [some (.ref a), some (.int p), some (.int res), none, none, none, none]) pn_Md rfl (Nat.le_of_ble_eq_true rfl) ?_
  unfold mw_lk at hp
  rw [← hT 21 (by decide) (by decide), ← hT 23 (by decide) (by decide)] at hp
  by_cases g1 : gi p 2600 = true
  · rw [if_pos g1] at hp
    by_cases g2 : gi (σ.2 21 p.toNatClampNeg) 26 = true
    · rw [if_pos g2] at hp
      cases hx : f false (σ.2 23 p.toNatClampNeg) res 0 (upd (σ.2 38) (σ.2 21 p.toNatClampNeg).toNatClampNeg 0) with
      | none =>
        rw [hx] at hp
        cases hp
      | some x =>
        rw [hx] at hp
        dsimp only at hp
        by_cases h1 : q_hasS x (σ.2 21 p.toNatClampNeg) = 0
        · rw [if_pos h1] at hp
          cases hy : f true (σ.2 23 p.toNatClampNeg) res 1 (upd (σ.2 38) (σ.2 21 p.toNatClampNeg).toNatClampNeg 0) with
          | none =>
            rw [hy] at hp
            cases hp
          | some y =>
            rw [hy] at hp
            dsimp only at hp
            by_cases h2 : q_hasS y (σ.2 21 p.toNatClampNeg) = 0
            · rw [if_pos h2] at hp
              cases hp
              refine gm_p k_Md_look rfl rfl ?_
              refine gm_g k_Md_look rfl rfl rfl rfl ?_
              refine gm_p k_Md_look rfl rfl ?_
              refine gm_ld k_Md_look rfl rfl (gi_in (by assumption)) (by decide) ?_
              refine gm_p k_Md_look rfl rfl ?_
              refine gm_p k_Md_look rfl rfl ?_
              refine gm_g k_Md_look rfl rfl rfl rfl ?_
              refine gm_p k_Md_look rfl rfl ?_
              refine gm_ld k_Md_look rfl rfl (gi_in (by assumption)) (by decide) ?_
              refine gm_p k_Md_look rfl rfl ?_
              refine gm_p k_Md_look rfl rfl ?_
              refine gm_g k_Md_look rfl rfl rfl rfl ?_
              refine gm_p k_Md_look rfl rfl ?_
              refine gm_p k_Md_look rfl rfl ?_
              refine gm_sto k_Md_look rfl rfl (gi_in (by assumption)) (by decide) ?_
              refine gm_p k_Md_look rfl rfl ?_
              refine gm_p k_Md_look rfl rfl ?_
              refine gm_p k_Md_look rfl rfl ?_
              refine gm_ivE (M' := m_Md_must) (As := [.int (σ.2 23 p.toNatClampNeg), .int res]) k_Md_look rfl rfl rfl rfl rfl rfl (Nat.le_of_ble_eq_true rfl) (ih.1 _ _ _ _ _ (by omega) (mw_hT hT) hS hx) ?_
              refine gm_p k_Md_look rfl rfl ?_
              refine gm_is (M' := m_Md_hasSignal) (As := [.long _, .int _]) k_Md_look rfl rfl rfl rfl rfl rfl (Nat.le_of_ble_eq_true rfl) (fun h => c_Md_hasSignalQ _ _ h) ?_
              refine gm_p k_Md_look rfl rfl ?_
              refine gm_p k_Md_look rfl rfl ?_
              refine gm_g k_Md_look rfl rfl rfl rfl ?_
              refine gm_p k_Md_look rfl rfl ?_
              refine gm_p k_Md_look rfl rfl ?_
              refine gm_sto k_Md_look rfl rfl (gi_in (by assumption)) (by decide) ?_
              simp only [gm_up_same, gm_up_up, upd_upd]
              refine gm_p k_Md_look rfl rfl ?_
              refine gm_if k_Md_look rfl rfl rfl (fun hc44 => ?_) (fun hc44 => ?_)
              · (try dsimp only at hc44)
                (exfalso; simp_all; done)
              · (try dsimp only at hc44)
                refine gm_p k_Md_look rfl rfl ?_
                refine gm_p k_Md_look rfl rfl ?_
                refine gm_p k_Md_look rfl rfl ?_
                refine gm_p k_Md_look rfl rfl ?_
                refine gm_ivE (M' := m_Md_can) (As := [.int (σ.2 23 p.toNatClampNeg), .int res, .int 1]) k_Md_look rfl rfl rfl rfl rfl rfl (Nat.le_of_ble_eq_true rfl) (ih.2 _ _ _ _ _ _ (by omega) (mw_hT hT) hS hy) ?_
                refine gm_p k_Md_look rfl rfl ?_
                refine gm_is (M' := m_Md_hasSignal) (As := [.long _, .int _]) k_Md_look rfl rfl rfl rfl rfl rfl (Nat.le_of_ble_eq_true rfl) (fun h => c_Md_hasSignalQ _ _ h) ?_
                refine gm_if k_Md_look rfl rfl rfl (fun hc59 => ?_) (fun hc59 => ?_)
                · (try dsimp only at hc59)
                  (exfalso; simp_all; done)
                · (try dsimp only at hc59)
                  refine gm_p k_Md_look rfl rfl ?_
                  refine gm_j k_Md_look rfl rfl ?_
                  refine gm_p k_Md_look rfl rfl ?_
                  refine gm_p k_Md_look rfl rfl ?_
                  refine gm_g k_Md_look rfl rfl rfl rfl ?_
                  refine gm_p k_Md_look rfl rfl ?_
                  refine gm_p k_Md_look rfl rfl ?_
                  refine gm_if k_Md_look rfl rfl rfl (fun hc76 => ?_) (fun hc76 => ?_)
                  · (try dsimp only at hc76)
                    refine gm_p k_Md_look rfl rfl ?_
                    refine gm_if k_Md_look rfl rfl rfl (fun hc85 => ?_) (fun hc85 => ?_)
                    · (try dsimp only at hc85)
                      (exfalso; simp_all; done)
                    · (try dsimp only at hc85)
                      refine gm_p k_Md_look rfl rfl ?_
                      refine gm_j k_Md_look rfl rfl ?_
                      refine gm_sto k_Md_look rfl rfl (gi_in (by assumption)) (by decide) ?_
                      simp only [gm_up_same, gm_up_up, upd_upd]
                      exact gm_ret (v := none) k_Md_look rfl rfl trivial rfl ⟨rfl, rfl⟩
                  · (try dsimp only at hc76)
                    (exfalso; simp_all; done)
            · rw [if_neg h2] at hp
              cases hp
              refine gm_p k_Md_look rfl rfl ?_
              refine gm_g k_Md_look rfl rfl rfl rfl ?_
              refine gm_p k_Md_look rfl rfl ?_
              refine gm_ld k_Md_look rfl rfl (gi_in (by assumption)) (by decide) ?_
              refine gm_p k_Md_look rfl rfl ?_
              refine gm_p k_Md_look rfl rfl ?_
              refine gm_g k_Md_look rfl rfl rfl rfl ?_
              refine gm_p k_Md_look rfl rfl ?_
              refine gm_ld k_Md_look rfl rfl (gi_in (by assumption)) (by decide) ?_
              refine gm_p k_Md_look rfl rfl ?_
              refine gm_p k_Md_look rfl rfl ?_
              refine gm_g k_Md_look rfl rfl rfl rfl ?_
              refine gm_p k_Md_look rfl rfl ?_
              refine gm_p k_Md_look rfl rfl ?_
              refine gm_sto k_Md_look rfl rfl (gi_in (by assumption)) (by decide) ?_
              refine gm_p k_Md_look rfl rfl ?_
              refine gm_p k_Md_look rfl rfl ?_
              refine gm_p k_Md_look rfl rfl ?_
              refine gm_ivE (M' := m_Md_must) (As := [.int (σ.2 23 p.toNatClampNeg), .int res]) k_Md_look rfl rfl rfl rfl rfl rfl (Nat.le_of_ble_eq_true rfl) (ih.1 _ _ _ _ _ (by omega) (mw_hT hT) hS hx) ?_
              refine gm_p k_Md_look rfl rfl ?_
              refine gm_is (M' := m_Md_hasSignal) (As := [.long _, .int _]) k_Md_look rfl rfl rfl rfl rfl rfl (Nat.le_of_ble_eq_true rfl) (fun h => c_Md_hasSignalQ _ _ h) ?_
              refine gm_p k_Md_look rfl rfl ?_
              refine gm_p k_Md_look rfl rfl ?_
              refine gm_g k_Md_look rfl rfl rfl rfl ?_
              refine gm_p k_Md_look rfl rfl ?_
              refine gm_p k_Md_look rfl rfl ?_
              refine gm_sto k_Md_look rfl rfl (gi_in (by assumption)) (by decide) ?_
              simp only [gm_up_same, gm_up_up, upd_upd]
              refine gm_p k_Md_look rfl rfl ?_
              refine gm_if k_Md_look rfl rfl rfl (fun hc44 => ?_) (fun hc44 => ?_)
              · (try dsimp only at hc44)
                (exfalso; simp_all; done)
              · (try dsimp only at hc44)
                refine gm_p k_Md_look rfl rfl ?_
                refine gm_p k_Md_look rfl rfl ?_
                refine gm_p k_Md_look rfl rfl ?_
                refine gm_p k_Md_look rfl rfl ?_
                refine gm_ivE (M' := m_Md_can) (As := [.int (σ.2 23 p.toNatClampNeg), .int res, .int 1]) k_Md_look rfl rfl rfl rfl rfl rfl (Nat.le_of_ble_eq_true rfl) (ih.2 _ _ _ _ _ _ (by omega) (mw_hT hT) hS hy) ?_
                refine gm_p k_Md_look rfl rfl ?_
                refine gm_is (M' := m_Md_hasSignal) (As := [.long _, .int _]) k_Md_look rfl rfl rfl rfl rfl rfl (Nat.le_of_ble_eq_true rfl) (fun h => c_Md_hasSignalQ _ _ h) ?_
                refine gm_if k_Md_look rfl rfl rfl (fun hc59 => ?_) (fun hc59 => ?_)
                · (try dsimp only at hc59)
                  refine gm_p k_Md_look rfl rfl ?_
                  refine gm_p k_Md_look rfl rfl ?_
                  refine gm_p k_Md_look rfl rfl ?_
                  refine gm_g k_Md_look rfl rfl rfl rfl ?_
                  refine gm_p k_Md_look rfl rfl ?_
                  refine gm_p k_Md_look rfl rfl ?_
                  refine gm_if k_Md_look rfl rfl rfl (fun hc76 => ?_) (fun hc76 => ?_)
                  · (try dsimp only at hc76)
                    refine gm_p k_Md_look rfl rfl ?_
                    refine gm_if k_Md_look rfl rfl rfl (fun hc85 => ?_) (fun hc85 => ?_)
                    · (try dsimp only at hc85)
                      refine gm_p k_Md_look rfl rfl ?_
                      refine gm_sto k_Md_look rfl rfl (gi_in (by assumption)) (by decide) ?_
                      simp only [gm_up_same, gm_up_up, upd_upd]
                      exact gm_ret (v := none) k_Md_look rfl rfl trivial rfl ⟨rfl, rfl⟩
                    · (try dsimp only at hc85)
                      (exfalso; simp_all; done)
                  · (try dsimp only at hc76)
                    (exfalso; simp_all; done)
                · (try dsimp only at hc59)
                  (exfalso; simp_all; done)
        · rw [if_neg h1] at hp
          cases hp
          refine gm_p k_Md_look rfl rfl ?_
          refine gm_g k_Md_look rfl rfl rfl rfl ?_
          refine gm_p k_Md_look rfl rfl ?_
          refine gm_ld k_Md_look rfl rfl (gi_in (by assumption)) (by decide) ?_
          refine gm_p k_Md_look rfl rfl ?_
          refine gm_p k_Md_look rfl rfl ?_
          refine gm_g k_Md_look rfl rfl rfl rfl ?_
          refine gm_p k_Md_look rfl rfl ?_
          refine gm_ld k_Md_look rfl rfl (gi_in (by assumption)) (by decide) ?_
          refine gm_p k_Md_look rfl rfl ?_
          refine gm_p k_Md_look rfl rfl ?_
          refine gm_g k_Md_look rfl rfl rfl rfl ?_
          refine gm_p k_Md_look rfl rfl ?_
          refine gm_p k_Md_look rfl rfl ?_
          refine gm_sto k_Md_look rfl rfl (gi_in (by assumption)) (by decide) ?_
          refine gm_p k_Md_look rfl rfl ?_
          refine gm_p k_Md_look rfl rfl ?_
          refine gm_p k_Md_look rfl rfl ?_
          refine gm_ivE (M' := m_Md_must) (As := [.int (σ.2 23 p.toNatClampNeg), .int res]) k_Md_look rfl rfl rfl rfl rfl rfl (Nat.le_of_ble_eq_true rfl) (ih.1 _ _ _ _ _ (by omega) (mw_hT hT) hS hx) ?_
          refine gm_p k_Md_look rfl rfl ?_
          refine gm_is (M' := m_Md_hasSignal) (As := [.long _, .int _]) k_Md_look rfl rfl rfl rfl rfl rfl (Nat.le_of_ble_eq_true rfl) (fun h => c_Md_hasSignalQ _ _ h) ?_
          refine gm_p k_Md_look rfl rfl ?_
          refine gm_p k_Md_look rfl rfl ?_
          refine gm_g k_Md_look rfl rfl rfl rfl ?_
          refine gm_p k_Md_look rfl rfl ?_
          refine gm_p k_Md_look rfl rfl ?_
          refine gm_sto k_Md_look rfl rfl (gi_in (by assumption)) (by decide) ?_
          simp only [gm_up_same, gm_up_up, upd_upd]
          refine gm_p k_Md_look rfl rfl ?_
          refine gm_if k_Md_look rfl rfl rfl (fun hc44 => ?_) (fun hc44 => ?_)
          · (try dsimp only at hc44)
            refine gm_p k_Md_look rfl rfl ?_
            refine gm_p k_Md_look rfl rfl ?_
            refine gm_p k_Md_look rfl rfl ?_
            refine gm_g k_Md_look rfl rfl rfl rfl ?_
            refine gm_p k_Md_look rfl rfl ?_
            refine gm_p k_Md_look rfl rfl ?_
            refine gm_if k_Md_look rfl rfl rfl (fun hc76 => ?_) (fun hc76 => ?_)
            · (try dsimp only at hc76)
              (exfalso; simp_all; done)
            · (try dsimp only at hc76)
              refine gm_p k_Md_look rfl rfl ?_
              refine gm_j k_Md_look rfl rfl ?_
              refine gm_sto k_Md_look rfl rfl (gi_in (by assumption)) (by decide) ?_
              simp only [gm_up_same, gm_up_up, upd_upd]
              exact gm_ret (v := none) k_Md_look rfl rfl trivial rfl ⟨rfl, rfl⟩
          · (try dsimp only at hc44)
            (exfalso; simp_all; done)
    · rw [if_neg g2] at hp
      cases hp
  · rw [if_neg g1] at hp
    cases hp
end MD3
