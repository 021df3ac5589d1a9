def sk_fs (A : Nat → Nat) (r : Nat → Int32) (k : Nat → Option Nat) : List Value := [va_rf (k 0), .ref (A 1), .ref (A 2), .ref (A 3), .ref (A 4), .ref (A 5), .int (r 6), .int (r 7), .int (r 8), va_rf (k 9), va_rf (k 10), .int (r 11), .int (r 12), .int (r 13)]
def sk_ln (k : Nat) : Nat := match k with
  | 1 => 300
  | 2 => 300
  | 3 => 300
  | 4 => 300
  | 5 => 301
  | _ => 0
def sk_K : ck_K := (5, sk_fs, sk_ln, fun _ => 0)
def tk_rd (E : ck_E) (t : Nat) : Option (Nat → Int32) := match E t with
  | some (.inr (6, [.int a0, .int a1, .int a2, .int a3, .int a4, .int a5, .int a6, .int a7, .int a8])) => some (fun k => match k with
    | 0 => a0
    | 1 => a1
    | 2 => a2
    | 3 => a3
    | 4 => a4
    | 5 => a5
    | 6 => a6
    | 7 => a7
    | 8 => a8
    | _ => 0)
  | _ => none
theorem tk_rd_of {E : ck_E} {t : Nat} {ρ : Nat → Int32} (h : tk_rd E t = some ρ) {B : Nat → Nat} {κ : Nat → Option Nat} : E t = some (.inr (6, tk_fs B ρ κ)) := by
  unfold tk_rd at h
  split at h
  · next he =>
    cases h
    exact he
  · cases h
/-- a tick worked out by a ticker that stands among the other cells -/
def sp_tkE (t : Nat) (p : Option Nat) (from_ inputs : Int32) (σ : ck_S) : Option (Int32 × ck_S) := match tk_rd σ.2.2.2.1 t with
  | none => none
  | some ρ => match sp_Tk_go p from_ inputs (ρ, fun _ _ => 0, fun _ => none, edel σ.2.2.2.1 tk_K t (fun _ => 0), σ.2.2.2.2) with
    | none => none
    | some r => some (r.1, (σ.1, σ.2.1, σ.2.2.1, eput tk_K t (fun _ => 0) r.2, r.2.2.2.2.2))
section SK1
variable {l : Launch} {F : gx_F} {d : Nat} {K : ck_K} {a : Nat} {A : Nat → Nat}
theorem c_tkE {t : Nat} {p : Option Nat} {from_ inputs : Int32} {σ : ck_S} {r : Int32 × ck_S} (hp : sp_tkE t p from_ inputs σ = some r) : ck_Has l F (d + 1202) m_Tk_go K a A [.ref t, va_rf p, .int from_, .int inputs] σ (fun w σ' => w = some (.int r.1) ∧ σ' = r.2) := by
  unfold sp_tkE at hp
  cases hr : tk_rd σ.2.2.2.1 t with
  | none =>
    rw [hr] at hp
    cases hp
  | some ρ =>
    rw [hr] at hp
    dsimp only at hp
    cases hx : sp_Tk_go p from_ inputs (ρ, fun _ _ => 0, fun _ => none, edel σ.2.2.2.1 tk_K t (fun _ => 0), σ.2.2.2.2) with
    | none =>
      rw [hx] at hp
      cases hp
    | some q =>
      rw [hx] at hp
      cases hp
      exact ck_br (K2 := tk_K) (B := fun _ => 0) ⟨fun k h => absurd rfl h, tk_rd_of hr (B := fun _ => 0) (κ := fun _ => none), fun k h => absurd rfl h, fun k _ h => absurd rfl h⟩ (c_sp_Tk_go hx)
def sp_Sk_told  (v1 : Int32) (σ : ck_S) : Option (Int32 × ck_S) := (if (σ.1 8) = 0 then some ((-1), σ) else (if v1 = (-1) then some ((σ.1 7), σ) else (if v1 = (-2) then some ((σ.1 6), σ) else (if v1 < 0 then some ((-1), σ) else (if (σ.1 7) ≤ v1 then some ((-1), σ) else (if (301 : Int32) ≤ v1 then some ((-1), σ) else (if gi v1 301 = true then some (((σ.2.1 5) v1.toNatClampNeg), σ) else none)))))))
theorem c_sp_Sk_told  {v1 : Int32} {σ : ck_S} {r : Int32 × ck_S} (hp : sp_Sk_told  v1 σ = some r) : ck_Has l F (d) m_Sk_told sk_K a A [.ref a, .int v1] σ (fun w σ' => w = some (.int r.1) ∧ σ' = r.2) := by
  refine ck_meth (k := 0) (L := [some (.ref a), some (.int v1)]) pn_Sk rfl (Nat.le_of_ble_eq_true rfl) ?_
  unfold sp_Sk_told at hp
  refine ck_p (L' := [some (.ref a), some (.int v1)]) (st' := [.ref a]) k_Sk_told rfl rfl ?_
  refine ck_g k_Sk_told rfl rfl rfl rfl ?_
  refine ck_if k_Sk_told rfl rfl rfl (fun h1 => ?_) (fun h1 => ?_)
  · skip
    rw [if_neg (show ¬ ((σ.1 8) = 0) from h1)] at hp
    refine ck_p (L' := [some (.ref a), some (.int v1)]) (st' := [.int v1]) k_Sk_told rfl rfl ?_
    refine ck_p (L' := [some (.ref a), some (.int v1)]) (st' := [.int (-1), .int v1]) k_Sk_told rfl rfl ?_
    refine ck_ic k_Sk_told rfl rfl rfl (fun h2 => ?_) (fun h2 => ?_)
    · skip
      rw [if_neg (show ¬ (v1 = (-1)) from h2)] at hp
      refine ck_p (L' := [some (.ref a), some (.int v1)]) (st' := [.int v1]) k_Sk_told rfl rfl ?_
      refine ck_p (L' := [some (.ref a), some (.int v1)]) (st' := [.int (-2), .int v1]) k_Sk_told rfl rfl ?_
      refine ck_ic k_Sk_told rfl rfl rfl (fun h3 => ?_) (fun h3 => ?_)
      · skip
        rw [if_neg (show ¬ (v1 = (-2)) from h3)] at hp
        refine ck_p (L' := [some (.ref a), some (.int v1)]) (st' := [.int v1]) k_Sk_told rfl rfl ?_
        refine ck_if k_Sk_told rfl rfl rfl (fun h4 => ?_) (fun h4 => ?_)
        · skip
          rw [if_pos (show v1 < 0 from h4)] at hp
          refine ck_p (L' := [some (.ref a), some (.int v1)]) (st' := [.int (-1)]) k_Sk_told rfl rfl ?_
          cases hp
          exact ck_ret (v := some (.int _)) k_Sk_told rfl rfl trivial rfl ⟨rfl, rfl⟩
        · skip
          rw [if_neg (show ¬ (v1 < 0) from h4)] at hp
          refine ck_p (L' := [some (.ref a), some (.int v1)]) (st' := [.int v1]) k_Sk_told rfl rfl ?_
          refine ck_p (L' := [some (.ref a), some (.int v1)]) (st' := [.ref a, .int v1]) k_Sk_told rfl rfl ?_
          refine ck_g k_Sk_told rfl rfl rfl rfl ?_
          refine ck_ic k_Sk_told rfl rfl rfl (fun h5 => ?_) (fun h5 => ?_)
          · skip
            rw [if_pos (show (σ.1 7) ≤ v1 from h5)] at hp
            refine ck_p (L' := [some (.ref a), some (.int v1)]) (st' := [.int (-1)]) k_Sk_told rfl rfl ?_
            cases hp
            exact ck_ret (v := some (.int _)) k_Sk_told rfl rfl trivial rfl ⟨rfl, rfl⟩
          · skip
            rw [if_neg (show ¬ ((σ.1 7) ≤ v1) from h5)] at hp
            refine ck_p (L' := [some (.ref a), some (.int v1)]) (st' := [.int v1]) k_Sk_told rfl rfl ?_
            refine ck_p (L' := [some (.ref a), some (.int v1)]) (st' := [.ref a, .int v1]) k_Sk_told rfl rfl ?_
            refine ck_g k_Sk_told rfl rfl rfl rfl ?_
            refine ck_ln k_Sk_told rfl rfl rfl (by decide) ?_
            refine ck_ic k_Sk_told rfl rfl rfl (fun h6 => ?_) (fun h6 => ?_)
            · skip
              rw [if_pos (show (301 : Int32) ≤ v1 from h6)] at hp
              refine ck_p (L' := [some (.ref a), some (.int v1)]) (st' := [.int (-1)]) k_Sk_told rfl rfl ?_
              cases hp
              exact ck_ret (v := some (.int _)) k_Sk_told rfl rfl trivial rfl ⟨rfl, rfl⟩
            · skip
              rw [if_neg (show ¬ ((301 : Int32) ≤ v1) from h6)] at hp
              refine ck_p (L' := [some (.ref a), some (.int v1)]) (st' := [.ref a]) k_Sk_told rfl rfl ?_
              refine ck_g k_Sk_told rfl rfl rfl rfl ?_
              refine ck_p (L' := [some (.ref a), some (.int v1)]) (st' := [.int v1, .ref (A 5)]) k_Sk_told rfl rfl ?_
              by_cases g7 : gi v1 301 = true
              · rw [if_pos g7] at hp
                refine ck_ld k_Sk_told rfl rfl rfl (gi_in g7) (by decide) ?_
                refine ck_j k_Sk_told rfl rfl ?_
                cases hp
                exact ck_ret (v := some (.int _)) k_Sk_told rfl rfl trivial rfl ⟨rfl, rfl⟩
              · rw [if_neg g7] at hp
                cases hp
      · skip
        rw [if_pos (show v1 = (-2) from h3)] at hp
        refine ck_p (L' := [some (.ref a), some (.int v1)]) (st' := [.ref a]) k_Sk_told rfl rfl ?_
        refine ck_g k_Sk_told rfl rfl rfl rfl ?_
        cases hp
        exact ck_ret (v := some (.int _)) k_Sk_told rfl rfl trivial rfl ⟨rfl, rfl⟩
    · skip
      rw [if_pos (show v1 = (-1) from h2)] at hp
      refine ck_p (L' := [some (.ref a), some (.int v1)]) (st' := [.ref a]) k_Sk_told rfl rfl ?_
      refine ck_g k_Sk_told rfl rfl rfl rfl ?_
      cases hp
      exact ck_ret (v := some (.int _)) k_Sk_told rfl rfl trivial rfl ⟨rfl, rfl⟩
  · skip
    rw [if_pos (show (σ.1 8) = 0 from h1)] at hp
    refine ck_p (L' := [some (.ref a), some (.int v1)]) (st' := [.int (-1)]) k_Sk_told rfl rfl ?_
    cases hp
    exact ck_ret (v := some (.int _)) k_Sk_told rfl rfl trivial rfl ⟨rfl, rfl⟩
def sp_Sk_ticksTo_4   : Nat → Int32 → Int32 → Int32 → ck_S → Option (Int32 × ck_S)
  | 0, _, _, _, _ => none
  | m + 1, v1, v2, v3, σ => (if v3 ≤ 0 then some (v2, σ) else (if (300 : Int32) ≤ v2 then some (v2, σ) else (if gi v3 300 = true then sp_Sk_ticksTo_4    m v1 (v2 + 1) ((σ.2.1 3) v3.toNatClampNeg) σ else none)))
theorem c_sp_Sk_ticksTo_4  {r : Int32 × ck_S} : ∀ (m : Nat) (v1 : Int32) (v2 : Int32) (v3 : Int32) (σ : ck_S), sp_Sk_ticksTo_4   m v1 v2 v3 σ = some r → ck_Go l F (d) m_Sk_ticksTo sk_K a A 4 ([some (.ref a), some (.int v1), some (.int v2), some (.int v3)]) [] σ (fun w σ' => w = some (.int r.1) ∧ σ' = r.2) := by
  intro m
  induction m with
  | zero => intro v1 v2 v3 σ hp; cases hp
  | succ m ihm =>
    intro v1 v2 v3 σ hp
    unfold sp_Sk_ticksTo_4 at hp
    refine ck_p (L' := [some (.ref a), some (.int v1), some (.int v2), some (.int v3)]) (st' := [.int v3]) k_Sk_ticksTo rfl rfl ?_
    refine ck_if k_Sk_ticksTo rfl rfl rfl (fun h1 => ?_) (fun h1 => ?_)
    · skip
      rw [if_pos (show v3 ≤ 0 from h1)] at hp
      refine ck_p (L' := [some (.ref a), some (.int v1), some (.int v2), some (.int v3)]) (st' := [.int v2]) k_Sk_ticksTo rfl rfl ?_
      cases hp
      exact ck_ret (v := some (.int _)) k_Sk_ticksTo rfl rfl trivial rfl ⟨rfl, rfl⟩
    · skip
      rw [if_neg (show ¬ (v3 ≤ 0) from h1)] at hp
      refine ck_p (L' := [some (.ref a), some (.int v1), some (.int v2), some (.int v3)]) (st' := [.int v2]) k_Sk_ticksTo rfl rfl ?_
      refine ck_p (L' := [some (.ref a), some (.int v1), some (.int v2), some (.int v3)]) (st' := [.int 300, .int v2]) k_Sk_ticksTo rfl rfl ?_
      refine ck_ic k_Sk_ticksTo rfl rfl rfl (fun h2 => ?_) (fun h2 => ?_)
      · skip
        rw [if_pos (show (300 : Int32) ≤ v2 from h2)] at hp
        refine ck_p (L' := [some (.ref a), some (.int v1), some (.int v2), some (.int v3)]) (st' := [.int v2]) k_Sk_ticksTo rfl rfl ?_
        cases hp
        exact ck_ret (v := some (.int _)) k_Sk_ticksTo rfl rfl trivial rfl ⟨rfl, rfl⟩
      · skip
        rw [if_neg (show ¬ ((300 : Int32) ≤ v2) from h2)] at hp
        refine ck_p (L' := [some (.ref a), some (.int v1), some (.int (v2 + 1)), some (.int v3)]) (st' := []) k_Sk_ticksTo rfl rfl ?_
        refine ck_p (L' := [some (.ref a), some (.int v1), some (.int (v2 + 1)), some (.int v3)]) (st' := [.ref a]) k_Sk_ticksTo rfl rfl ?_
        refine ck_g k_Sk_ticksTo rfl rfl rfl rfl ?_
        refine ck_p (L' := [some (.ref a), some (.int v1), some (.int (v2 + 1)), some (.int v3)]) (st' := [.int v3, .ref (A 3)]) k_Sk_ticksTo rfl rfl ?_
        by_cases g3 : gi v3 300 = true
        · rw [if_pos g3] at hp
          refine ck_ld k_Sk_ticksTo rfl rfl rfl (gi_in g3) (by decide) ?_
          refine ck_p (L' := [some (.ref a), some (.int v1), some (.int (v2 + 1)), some (.int ((σ.2.1 3) v3.toNatClampNeg))]) (st' := []) k_Sk_ticksTo rfl rfl ?_
          refine ck_j k_Sk_ticksTo rfl rfl ?_
          exact ihm _ _ _ _ hp
        · rw [if_neg g3] at hp
          cases hp
def sp_Sk_ticksTo  (v1 : Int32) (σ : ck_S) : Option (Int32 × ck_S) := sp_Sk_ticksTo_4   2601 v1 0 v1 σ
theorem c_sp_Sk_ticksTo  {v1 : Int32} {σ : ck_S} {r : Int32 × ck_S} (hp : sp_Sk_ticksTo  v1 σ = some r) : ck_Has l F (d) m_Sk_ticksTo sk_K a A [.ref a, .int v1] σ (fun w σ' => w = some (.int r.1) ∧ σ' = r.2) := by
  refine ck_meth (k := 2) (L := [some (.ref a), some (.int v1), none, none]) pn_Sk rfl (Nat.le_of_ble_eq_true rfl) ?_
  unfold sp_Sk_ticksTo at hp
  refine ck_p (L' := [some (.ref a), some (.int v1), none, none]) (st' := [.int 0]) k_Sk_ticksTo rfl rfl ?_
  refine ck_p (L' := [some (.ref a), some (.int v1), some (.int 0), none]) (st' := []) k_Sk_ticksTo rfl rfl ?_
  refine ck_p (L' := [some (.ref a), some (.int v1), some (.int 0), none]) (st' := [.int v1]) k_Sk_ticksTo rfl rfl ?_
  refine ck_p (L' := [some (.ref a), some (.int v1), some (.int 0), some (.int v1)]) (st' := []) k_Sk_ticksTo rfl rfl ?_
  exact c_sp_Sk_ticksTo_4   _ _ _ _ _ hp
def sp_Sk_keepRun_33   : Nat → Int32 → Int32 → Int32 → Int32 → ck_S → Option (ck_S)
  | 0, _, _, _, _, _ => none
  | m + 1, v1, v2, v3, v4, σ => (if v4 < 0 then some σ else (if gi v3 300 = true then (if gi v4 301 = true then sp_Sk_keepRun_33    m v1 v2 ((σ.2.1 3) v3.toNatClampNeg) (v4 + (-1)) (σ.1, (gm_up σ.2.1 5 (upd (σ.2.1 5) v4.toNatClampNeg ((σ.2.1 4) v3.toNatClampNeg))), σ.2.2.1, σ.2.2.2.1, σ.2.2.2.2.1, σ.2.2.2.2.2) else none) else none))
theorem c_sp_Sk_keepRun_33  {r : ck_S} : ∀ (m : Nat) (v1 : Int32) (v2 : Int32) (v3 : Int32) (v4 : Int32) (σ : ck_S), sp_Sk_keepRun_33   m v1 v2 v3 v4 σ = some r → ck_Go l F (d + 1) m_Sk_keepRun sk_K a A 33 ([some (.ref a), some (.int v1), some (.int v2), some (.int v3), some (.int v4)]) [] σ (fun w σ' => w = none ∧ σ' = r) := by
  intro m
  induction m with
  | zero => intro v1 v2 v3 v4 σ hp; cases hp
  | succ m ihm =>
    intro v1 v2 v3 v4 σ hp
    unfold sp_Sk_keepRun_33 at hp
    refine ck_p (L' := [some (.ref a), some (.int v1), some (.int v2), some (.int v3), some (.int v4)]) (st' := [.int v4]) k_Sk_keepRun rfl rfl ?_
    refine ck_if k_Sk_keepRun rfl rfl rfl (fun h3 => ?_) (fun h3 => ?_)
    · skip
      rw [if_pos (show v4 < 0 from h3)] at hp
      cases hp
      exact ck_ret (v := none) k_Sk_keepRun rfl rfl trivial rfl ⟨rfl, rfl⟩
    · skip
      rw [if_neg (show ¬ (v4 < 0) from h3)] at hp
      refine ck_p (L' := [some (.ref a), some (.int v1), some (.int v2), some (.int v3), some (.int v4)]) (st' := [.ref a]) k_Sk_keepRun rfl rfl ?_
      refine ck_g k_Sk_keepRun rfl rfl rfl rfl ?_
      refine ck_p (L' := [some (.ref a), some (.int v1), some (.int v2), some (.int v3), some (.int v4)]) (st' := [.int v4, .ref (A 5)]) k_Sk_keepRun rfl rfl ?_
      refine ck_p (L' := [some (.ref a), some (.int v1), some (.int v2), some (.int v3), some (.int v4)]) (st' := [.ref a, .int v4, .ref (A 5)]) k_Sk_keepRun rfl rfl ?_
      refine ck_g k_Sk_keepRun rfl rfl rfl rfl ?_
      refine ck_p (L' := [some (.ref a), some (.int v1), some (.int v2), some (.int v3), some (.int v4)]) (st' := [.int v3, .ref (A 4), .int v4, .ref (A 5)]) k_Sk_keepRun rfl rfl ?_
      by_cases g4 : gi v3 300 = true
      · rw [if_pos g4] at hp
        refine ck_ld k_Sk_keepRun rfl rfl rfl (gi_in g4) (by decide) ?_
        by_cases g5 : gi v4 301 = true
        · rw [if_pos g5] at hp
          refine ck_sto k_Sk_keepRun rfl rfl rfl (gi_in g5) (by decide) ?_
          refine ck_p (L' := [some (.ref a), some (.int v1), some (.int v2), some (.int v3), some (.int v4)]) (st' := [.ref a]) k_Sk_keepRun rfl rfl ?_
          refine ck_g k_Sk_keepRun rfl rfl rfl rfl ?_
          refine ck_p (L' := [some (.ref a), some (.int v1), some (.int v2), some (.int v3), some (.int v4)]) (st' := [.int v3, .ref (A 3)]) k_Sk_keepRun rfl rfl ?_
          refine ck_ld k_Sk_keepRun rfl rfl rfl (gi_in g4) (by decide) ?_
          refine ck_p (L' := [some (.ref a), some (.int v1), some (.int v2), some (.int ((σ.2.1 3) v3.toNatClampNeg)), some (.int v4)]) (st' := []) k_Sk_keepRun rfl rfl ?_
          refine ck_p (L' := [some (.ref a), some (.int v1), some (.int v2), some (.int ((σ.2.1 3) v3.toNatClampNeg)), some (.int (v4 + (-1)))]) (st' := []) k_Sk_keepRun rfl rfl ?_
          refine ck_j k_Sk_keepRun rfl rfl ?_
          exact ihm _ _ _ _ _ hp
        · rw [if_neg g5] at hp
          cases hp
      · rw [if_neg g4] at hp
        cases hp
def sp_Sk_keepRun  (v1 : Int32) (v2 : Int32) (σ : ck_S) : Option (ck_S) := (match sp_Sk_ticksTo  v1 σ with
  | none => none
  | some y1 => (if gi ((y1.1 + 1) - 1) 301 = true then sp_Sk_keepRun_33   2601 v1 v2 v1 ((y1.1 + 1) - 2) ((upd y1.2.1 7 (y1.1 + 1)), (gm_up y1.2.2.1 5 (upd (y1.2.2.1 5) ((y1.1 + 1) - 1).toNatClampNeg v2)), y1.2.2.2.1, y1.2.2.2.2.1, y1.2.2.2.2.2.1, y1.2.2.2.2.2.2) else none))
theorem c_sp_Sk_keepRun  {v1 : Int32} {v2 : Int32} {σ : ck_S} {r : ck_S} (hp : sp_Sk_keepRun  v1 v2 σ = some r) : ck_Has l F (d + 1) m_Sk_keepRun sk_K a A [.ref a, .int v1, .int v2] σ (fun w σ' => w = none ∧ σ' = r) := by
  refine ck_meth (k := 2) (L := [some (.ref a), some (.int v1), some (.int v2), none, none]) pn_Sk rfl (Nat.le_of_ble_eq_true rfl) ?_
  unfold sp_Sk_keepRun at hp
  refine ck_p (L' := [some (.ref a), some (.int v1), some (.int v2), none, none]) (st' := [.ref a]) k_Sk_keepRun rfl rfl ?_
  refine ck_p (L' := [some (.ref a), some (.int v1), some (.int v2), none, none]) (st' := [.ref a, .ref a]) k_Sk_keepRun rfl rfl ?_
  refine ck_p (L' := [some (.ref a), some (.int v1), some (.int v2), none, none]) (st' := [.int v1, .ref a, .ref a]) k_Sk_keepRun rfl rfl ?_
  cases hy1 : sp_Sk_ticksTo  v1 σ with
  | none =>
    rw [hy1] at hp
    cases hp
  | some y1 =>
    rw [hy1] at hp
    try dsimp only at hp
    refine ck_ivB (M' := m_Sk_ticksTo) (As := [.int v1]) k_Sk_keepRun rfl rfl rfl rfl rfl rfl rfl (Nat.le_of_ble_eq_true rfl) (c_sp_Sk_ticksTo  hy1) (fun hby1 => ?_)
    refine ck_p (L' := [some (.ref a), some (.int v1), some (.int v2), none, none]) (st' := [.int 1, .int y1.1, .ref a]) k_Sk_keepRun rfl rfl ?_
    refine ck_p (L' := [some (.ref a), some (.int v1), some (.int v2), none, none]) (st' := [.int (y1.1 + 1), .ref a]) k_Sk_keepRun rfl rfl ?_
    refine ck_pt k_Sk_keepRun rfl rfl rfl trivial (Nat.le_of_ble_eq_true rfl) rfl ?_
    refine ck_p (L' := [some (.ref a), some (.int v1), some (.int v2), none, none]) (st' := [.ref a]) k_Sk_keepRun rfl rfl ?_
    refine ck_g k_Sk_keepRun rfl rfl rfl rfl ?_
    refine ck_p (L' := [some (.ref a), some (.int v1), some (.int v2), none, none]) (st' := [.ref a, .ref (A 5)]) k_Sk_keepRun rfl rfl ?_
    refine ck_g k_Sk_keepRun rfl rfl rfl rfl ?_
    refine ck_p (L' := [some (.ref a), some (.int v1), some (.int v2), none, none]) (st' := [.int 1, .int (y1.1 + 1), .ref (A 5)]) k_Sk_keepRun rfl rfl ?_
    refine ck_p (L' := [some (.ref a), some (.int v1), some (.int v2), none, none]) (st' := [.int ((y1.1 + 1) - 1), .ref (A 5)]) k_Sk_keepRun rfl rfl ?_
    refine ck_p (L' := [some (.ref a), some (.int v1), some (.int v2), none, none]) (st' := [.int v2, .int ((y1.1 + 1) - 1), .ref (A 5)]) k_Sk_keepRun rfl rfl ?_
    by_cases g2 : gi ((y1.1 + 1) - 1) 301 = true
    · rw [if_pos g2] at hp
      refine ck_sto k_Sk_keepRun rfl rfl rfl (gi_in g2) (by decide) ?_
      refine ck_p (L' := [some (.ref a), some (.int v1), some (.int v2), none, none]) (st' := [.int v1]) k_Sk_keepRun rfl rfl ?_
      refine ck_p (L' := [some (.ref a), some (.int v1), some (.int v2), some (.int v1), none]) (st' := []) k_Sk_keepRun rfl rfl ?_
      refine ck_p (L' := [some (.ref a), some (.int v1), some (.int v2), some (.int v1), none]) (st' := [.ref a]) k_Sk_keepRun rfl rfl ?_
      refine ck_g k_Sk_keepRun rfl rfl rfl rfl ?_
      refine ck_p (L' := [some (.ref a), some (.int v1), some (.int v2), some (.int v1), none]) (st' := [.int 2, .int (y1.1 + 1)]) k_Sk_keepRun rfl rfl ?_
      refine ck_p (L' := [some (.ref a), some (.int v1), some (.int v2), some (.int v1), none]) (st' := [.int ((y1.1 + 1) - 2)]) k_Sk_keepRun rfl rfl ?_
      refine ck_p (L' := [some (.ref a), some (.int v1), some (.int v2), some (.int v1), some (.int ((y1.1 + 1) - 2))]) (st' := []) k_Sk_keepRun rfl rfl ?_
      exact c_sp_Sk_keepRun_33   _ _ _ _ _ _ hp
    · rw [if_neg g2] at hp
      cases hp
def sp_Sk_keepState  (v1 : Int32) (v2 : Int32) (σ : ck_S) : Option (ck_S) := (if gi (σ.1 6) 300 = true then some ((upd σ.1 6 ((σ.1 6) + 1)), (gm_up (gm_up (gm_up (gm_up σ.2.1 1 (upd (σ.2.1 1) (σ.1 6).toNatClampNeg (σ.1 12))) 2 (upd (σ.2.1 2) (σ.1 6).toNatClampNeg (σ.1 13))) 3 (upd (σ.2.1 3) (σ.1 6).toNatClampNeg v1)) 4 (upd (σ.2.1 4) (σ.1 6).toNatClampNeg v2)), σ.2.2.1, σ.2.2.2.1, σ.2.2.2.2.1, σ.2.2.2.2.2) else none)
theorem c_sp_Sk_keepState  {v1 : Int32} {v2 : Int32} {σ : ck_S} {r : ck_S} (hp : sp_Sk_keepState  v1 v2 σ = some r) : ck_Has l F (d) m_Sk_keepState sk_K a A [.ref a, .int v1, .int v2] σ (fun w σ' => w = none ∧ σ' = r) := by
  refine ck_meth (k := 0) (L := [some (.ref a), some (.int v1), some (.int v2)]) pn_Sk rfl (Nat.le_of_ble_eq_true rfl) ?_
  unfold sp_Sk_keepState at hp
  refine ck_p (L' := [some (.ref a), some (.int v1), some (.int v2)]) (st' := [.ref a]) k_Sk_keepState rfl rfl ?_
  refine ck_g k_Sk_keepState rfl rfl rfl rfl ?_
  refine ck_p (L' := [some (.ref a), some (.int v1), some (.int v2)]) (st' := [.ref a, .ref (A 1)]) k_Sk_keepState rfl rfl ?_
  refine ck_g k_Sk_keepState rfl rfl rfl rfl ?_
  refine ck_p (L' := [some (.ref a), some (.int v1), some (.int v2)]) (st' := [.ref a, .int (σ.1 6), .ref (A 1)]) k_Sk_keepState rfl rfl ?_
  refine ck_g k_Sk_keepState rfl rfl rfl rfl ?_
  by_cases g1 : gi (σ.1 6) 300 = true
  · rw [if_pos g1] at hp
    refine ck_sto k_Sk_keepState rfl rfl rfl (gi_in g1) (by decide) ?_
    refine ck_p (L' := [some (.ref a), some (.int v1), some (.int v2)]) (st' := [.ref a]) k_Sk_keepState rfl rfl ?_
    refine ck_g k_Sk_keepState rfl rfl rfl rfl ?_
    refine ck_p (L' := [some (.ref a), some (.int v1), some (.int v2)]) (st' := [.ref a, .ref (A 2)]) k_Sk_keepState rfl rfl ?_
    refine ck_g k_Sk_keepState rfl rfl rfl rfl ?_
    refine ck_p (L' := [some (.ref a), some (.int v1), some (.int v2)]) (st' := [.ref a, .int (σ.1 6), .ref (A 2)]) k_Sk_keepState rfl rfl ?_
    refine ck_g k_Sk_keepState rfl rfl rfl rfl ?_
    refine ck_sto k_Sk_keepState rfl rfl rfl (gi_in g1) (by decide) ?_
    refine ck_p (L' := [some (.ref a), some (.int v1), some (.int v2)]) (st' := [.ref a]) k_Sk_keepState rfl rfl ?_
    refine ck_g k_Sk_keepState rfl rfl rfl rfl ?_
    refine ck_p (L' := [some (.ref a), some (.int v1), some (.int v2)]) (st' := [.ref a, .ref (A 3)]) k_Sk_keepState rfl rfl ?_
    refine ck_g k_Sk_keepState rfl rfl rfl rfl ?_
    refine ck_p (L' := [some (.ref a), some (.int v1), some (.int v2)]) (st' := [.int v1, .int (σ.1 6), .ref (A 3)]) k_Sk_keepState rfl rfl ?_
    refine ck_sto k_Sk_keepState rfl rfl rfl (gi_in g1) (by decide) ?_
    refine ck_p (L' := [some (.ref a), some (.int v1), some (.int v2)]) (st' := [.ref a]) k_Sk_keepState rfl rfl ?_
    refine ck_g k_Sk_keepState rfl rfl rfl rfl ?_
    refine ck_p (L' := [some (.ref a), some (.int v1), some (.int v2)]) (st' := [.ref a, .ref (A 4)]) k_Sk_keepState rfl rfl ?_
    refine ck_g k_Sk_keepState rfl rfl rfl rfl ?_
    refine ck_p (L' := [some (.ref a), some (.int v1), some (.int v2)]) (st' := [.int v2, .int (σ.1 6), .ref (A 4)]) k_Sk_keepState rfl rfl ?_
    refine ck_sto k_Sk_keepState rfl rfl rfl (gi_in g1) (by decide) ?_
    refine ck_p (L' := [some (.ref a), some (.int v1), some (.int v2)]) (st' := [.ref a]) k_Sk_keepState rfl rfl ?_
    refine ck_p (L' := [some (.ref a), some (.int v1), some (.int v2)]) (st' := [.ref a, .ref a]) k_Sk_keepState rfl rfl ?_
    refine ck_g k_Sk_keepState rfl rfl rfl rfl ?_
    refine ck_p (L' := [some (.ref a), some (.int v1), some (.int v2)]) (st' := [.int 1, .int (σ.1 6), .ref a]) k_Sk_keepState rfl rfl ?_
    refine ck_p (L' := [some (.ref a), some (.int v1), some (.int v2)]) (st' := [.int ((σ.1 6) + 1), .ref a]) k_Sk_keepState rfl rfl ?_
    refine ck_pt k_Sk_keepState rfl rfl rfl trivial (Nat.le_of_ble_eq_true rfl) rfl ?_
    cases hp
    exact ck_ret (v := none) k_Sk_keepState rfl rfl trivial rfl ⟨rfl, rfl⟩
  · rw [if_neg g1] at hp
    cases hp
def sp_Sk_isNew_2   : Nat → Int32 → ck_S → Option (Int32 × ck_S)
  | 0, _, _ => none
  | m + 1, v1, σ => (if (σ.1 6) ≤ v1 then some (1, σ) else (if (300 : Int32) ≤ v1 then some (1, σ) else (if gi v1 300 = true then (if ((σ.2.1 1) v1.toNatClampNeg) = (σ.1 12) then (if ((σ.2.1 2) v1.toNatClampNeg) = (σ.1 13) then some (0, σ) else sp_Sk_isNew_2    m (v1 + 1) σ) else sp_Sk_isNew_2    m (v1 + 1) σ) else none)))
theorem c_sp_Sk_isNew_2  {r : Int32 × ck_S} : ∀ (m : Nat) (v1 : Int32) (σ : ck_S), sp_Sk_isNew_2   m v1 σ = some r → ck_Go l F (d) m_Sk_isNew sk_K a A 2 ([some (.ref a), some (.int v1)]) [] σ (fun w σ' => w = some (.int r.1) ∧ σ' = r.2) := by
  intro m
  induction m with
  | zero => intro v1 σ hp; cases hp
  | succ m ihm =>
    intro v1 σ hp
    unfold sp_Sk_isNew_2 at hp
    refine ck_p (L' := [some (.ref a), some (.int v1)]) (st' := [.int v1]) k_Sk_isNew rfl rfl ?_
    refine ck_p (L' := [some (.ref a), some (.int v1)]) (st' := [.ref a, .int v1]) k_Sk_isNew rfl rfl ?_
    refine ck_g k_Sk_isNew rfl rfl rfl rfl ?_
    refine ck_ic k_Sk_isNew rfl rfl rfl (fun h1 => ?_) (fun h1 => ?_)
    · skip
      rw [if_pos (show (σ.1 6) ≤ v1 from h1)] at hp
      refine ck_p (L' := [some (.ref a), some (.int v1)]) (st' := [.int 1]) k_Sk_isNew rfl rfl ?_
      cases hp
      exact ck_ret (v := some (.int _)) k_Sk_isNew rfl rfl (Or.inr rfl) rfl ⟨rfl, rfl⟩
    · skip
      rw [if_neg (show ¬ ((σ.1 6) ≤ v1) from h1)] at hp
      refine ck_p (L' := [some (.ref a), some (.int v1)]) (st' := [.int v1]) k_Sk_isNew rfl rfl ?_
      refine ck_p (L' := [some (.ref a), some (.int v1)]) (st' := [.int 300, .int v1]) k_Sk_isNew rfl rfl ?_
      refine ck_ic k_Sk_isNew rfl rfl rfl (fun h2 => ?_) (fun h2 => ?_)
      · skip
        rw [if_pos (show (300 : Int32) ≤ v1 from h2)] at hp
        refine ck_p (L' := [some (.ref a), some (.int v1)]) (st' := [.int 1]) k_Sk_isNew rfl rfl ?_
        cases hp
        exact ck_ret (v := some (.int _)) k_Sk_isNew rfl rfl (Or.inr rfl) rfl ⟨rfl, rfl⟩
      · skip
        rw [if_neg (show ¬ ((300 : Int32) ≤ v1) from h2)] at hp
        refine ck_p (L' := [some (.ref a), some (.int v1)]) (st' := [.ref a]) k_Sk_isNew rfl rfl ?_
        refine ck_g k_Sk_isNew rfl rfl rfl rfl ?_
        refine ck_p (L' := [some (.ref a), some (.int v1)]) (st' := [.int v1, .ref (A 1)]) k_Sk_isNew rfl rfl ?_
        by_cases g3 : gi v1 300 = true
        · rw [if_pos g3] at hp
          refine ck_ld k_Sk_isNew rfl rfl rfl (gi_in g3) (by decide) ?_
          refine ck_p (L' := [some (.ref a), some (.int v1)]) (st' := [.ref a, .int ((σ.2.1 1) v1.toNatClampNeg)]) k_Sk_isNew rfl rfl ?_
          refine ck_g k_Sk_isNew rfl rfl rfl rfl ?_
          refine ck_ic k_Sk_isNew rfl rfl rfl (fun h4 => ?_) (fun h4 => ?_)
          · skip
            rw [if_neg (show ¬ (((σ.2.1 1) v1.toNatClampNeg) = (σ.1 12)) from h4)] at hp
            refine ck_p (L' := [some (.ref a), some (.int (v1 + 1))]) (st' := []) k_Sk_isNew rfl rfl ?_
            refine ck_j k_Sk_isNew rfl rfl ?_
            exact ihm _ _ hp
          · skip
            rw [if_pos (show ((σ.2.1 1) v1.toNatClampNeg) = (σ.1 12) from h4)] at hp
            refine ck_p (L' := [some (.ref a), some (.int v1)]) (st' := [.ref a]) k_Sk_isNew rfl rfl ?_
            refine ck_g k_Sk_isNew rfl rfl rfl rfl ?_
            refine ck_p (L' := [some (.ref a), some (.int v1)]) (st' := [.int v1, .ref (A 2)]) k_Sk_isNew rfl rfl ?_
            refine ck_ld k_Sk_isNew rfl rfl rfl (gi_in g3) (by decide) ?_
            refine ck_p (L' := [some (.ref a), some (.int v1)]) (st' := [.ref a, .int ((σ.2.1 2) v1.toNatClampNeg)]) k_Sk_isNew rfl rfl ?_
            refine ck_g k_Sk_isNew rfl rfl rfl rfl ?_
            refine ck_ic k_Sk_isNew rfl rfl rfl (fun h5 => ?_) (fun h5 => ?_)
            · skip
              rw [if_neg (show ¬ (((σ.2.1 2) v1.toNatClampNeg) = (σ.1 13)) from h5)] at hp
              refine ck_p (L' := [some (.ref a), some (.int (v1 + 1))]) (st' := []) k_Sk_isNew rfl rfl ?_
              refine ck_j k_Sk_isNew rfl rfl ?_
              exact ihm _ _ hp
            · skip
              rw [if_pos (show ((σ.2.1 2) v1.toNatClampNeg) = (σ.1 13) from h5)] at hp
              refine ck_p (L' := [some (.ref a), some (.int v1)]) (st' := [.int 0]) k_Sk_isNew rfl rfl ?_
              cases hp
              exact ck_ret (v := some (.int _)) k_Sk_isNew rfl rfl (Or.inl rfl) rfl ⟨rfl, rfl⟩
        · rw [if_neg g3] at hp
          cases hp
def sp_Sk_isNew   (σ : ck_S) : Option (Int32 × ck_S) := sp_Sk_isNew_2   2601 0 σ
theorem c_sp_Sk_isNew   {σ : ck_S} {r : Int32 × ck_S} (hp : sp_Sk_isNew   σ = some r) : ck_Has l F (d) m_Sk_isNew sk_K a A [.ref a] σ (fun w σ' => w = some (.int r.1) ∧ σ' = r.2) := by
  refine ck_meth (k := 1) (L := [some (.ref a), none]) pn_Sk rfl (Nat.le_of_ble_eq_true rfl) ?_
  unfold sp_Sk_isNew at hp
  refine ck_p (L' := [some (.ref a), none]) (st' := [.int 0]) k_Sk_isNew rfl rfl ?_
  refine ck_p (L' := [some (.ref a), some (.int 0)]) (st' := []) k_Sk_isNew rfl rfl ?_
  exact c_sp_Sk_isNew_2   _ _ _ hp
def sp_Sk_goAlone  (v1 : Int32) (v2 : Int32) (σ : ck_S) : Option (Int32 × ck_S) := (if gi v1 300 = true then (match (σ.2.2.1 0) with
  | none => none
  | some b2 => (if eo σ.2.2.2.1 b2 6 = true then (match sp_tkE b2 (σ.2.2.1 9) ((σ.2.1 1) v1.toNatClampNeg) v2 σ with
  | none => none
  | some y4 => (if y4.1 = 0 then (if (y4.2.1 11) = (-1) then (match (y4.2.2.2.1 0) with
  | none => none
  | some b8 => (match egI y4.2.2.2.2.1 b8 6 0 with
  | none => none
  | some y9 => some (1, ((upd (upd y4.2.1 12 y9) 13 (-2)), y4.2.2.1, y4.2.2.2.1, y4.2.2.2.2.1, y4.2.2.2.2.2.1, y4.2.2.2.2.2.2)))) else (match (y4.2.2.2.1 0) with
  | none => none
  | some b10 => (match egI y4.2.2.2.2.1 b10 6 1 with
  | none => none
  | some y11 => (if (y11 &&& ((1 : Int32) <<< ((y4.2.1 11) &&& 31))) = 0 then (match egI y4.2.2.2.2.1 b10 6 0 with
  | none => none
  | some y13 => some (1, ((upd (upd y4.2.1 12 y13) 13 (-2)), y4.2.2.1, y4.2.2.2.1, y4.2.2.2.2.1, y4.2.2.2.2.2.1, y4.2.2.2.2.2.2))) else some (0, y4.2))))) else (if (y4.2.1 11) = (-1) then some (0, y4.2) else some (2, y4.2)))) else none)) else none)
theorem c_sp_Sk_goAlone  {v1 : Int32} {v2 : Int32} {σ : ck_S} {r : Int32 × ck_S} (hp : sp_Sk_goAlone  v1 v2 σ = some r) : ck_Has l F (d + 1203) m_Sk_goAlone sk_K a A [.ref a, .int v1, .int v2] σ (fun w σ' => w = some (.int r.1) ∧ σ' = r.2) := by
  refine ck_meth (k := 1) (L := [some (.ref a), some (.int v1), some (.int v2), none]) pn_Sk rfl (Nat.le_of_ble_eq_true rfl) ?_
  unfold sp_Sk_goAlone at hp
  refine ck_p (L' := [some (.ref a), some (.int v1), some (.int v2), none]) (st' := [.ref a]) k_Sk_goAlone rfl rfl ?_
  refine ck_g k_Sk_goAlone rfl rfl rfl rfl ?_
  refine ck_p (L' := [some (.ref a), some (.int v1), some (.int v2), none]) (st' := [.ref a, va_rf (σ.2.2.1 0)]) k_Sk_goAlone rfl rfl ?_
  refine ck_g k_Sk_goAlone rfl rfl rfl rfl ?_
  refine ck_p (L' := [some (.ref a), some (.int v1), some (.int v2), none]) (st' := [.ref a, va_rf (σ.2.2.1 9), va_rf (σ.2.2.1 0)]) k_Sk_goAlone rfl rfl ?_
  refine ck_g k_Sk_goAlone rfl rfl rfl rfl ?_
  refine ck_p (L' := [some (.ref a), some (.int v1), some (.int v2), none]) (st' := [.int v1, .ref (A 1), va_rf (σ.2.2.1 9), va_rf (σ.2.2.1 0)]) k_Sk_goAlone rfl rfl ?_
  by_cases g1 : gi v1 300 = true
  · rw [if_pos g1] at hp
    refine ck_ld k_Sk_goAlone rfl rfl rfl (gi_in g1) (by decide) ?_
    refine ck_p (L' := [some (.ref a), some (.int v1), some (.int v2), none]) (st' := [.int v2, .int ((σ.2.1 1) v1.toNatClampNeg), va_rf (σ.2.2.1 9), va_rf (σ.2.2.1 0)]) k_Sk_goAlone rfl rfl ?_
    cases hb2 : (σ.2.2.1 0) with
    | none =>
      rw [hb2] at hp
      try dsimp only at hp
      cases hp
    | some b2 =>
      rw [hb2] at hp
      try dsimp only at hp
      by_cases g3 : eo σ.2.2.2.1 b2 6 = true
      · rw [if_pos g3] at hp
        cases hy4 : sp_tkE b2 (σ.2.2.1 9) ((σ.2.1 1) v1.toNatClampNeg) v2 σ with
        | none =>
          rw [hy4] at hp
          cases hp
        | some y4 =>
          rw [hy4] at hp
          try dsimp only at hp
          refine ck_ivO (M' := m_Tk_go) (As := [va_rf (σ.2.2.1 9), .int ((σ.2.1 1) v1.toNatClampNeg), .int v2]) k_Sk_goAlone rfl rfl rfl rfl rfl g3 rfl rfl (Nat.le_of_ble_eq_true rfl) (c_tkE hy4) (fun hby4 => ?_)
          refine ck_if k_Sk_goAlone rfl rfl rfl (fun h5 => ?_) (fun h5 => ?_)
          · skip
            rw [if_pos (show y4.1 = 0 from h5)] at hp
            refine ck_p (L' := [some (.ref a), some (.int v1), some (.int v2), none]) (st' := [.int 0]) k_Sk_goAlone rfl rfl ?_
            refine ck_p (L' := [some (.ref a), some (.int v1), some (.int v2), some (.int 0)]) (st' := []) k_Sk_goAlone rfl rfl ?_
            refine ck_p (L' := [some (.ref a), some (.int v1), some (.int v2), some (.int 0)]) (st' := [.int 0]) k_Sk_goAlone rfl rfl ?_
            refine ck_if k_Sk_goAlone rfl rfl rfl (fun h6 => ?_) (fun h6 => ?_)
            · skip
              refine ck_p (L' := [some (.ref a), some (.int v1), some (.int v2), some (.int 0)]) (st' := [.ref a]) k_Sk_goAlone rfl rfl ?_
              refine ck_g k_Sk_goAlone rfl rfl rfl rfl ?_
              refine ck_p (L' := [some (.ref a), some (.int v1), some (.int v2), some (.int 0)]) (st' := [.int (-1), .int (y4.2.1 11)]) k_Sk_goAlone rfl rfl ?_
              refine ck_ic k_Sk_goAlone rfl rfl rfl (fun h7 => ?_) (fun h7 => ?_)
              · skip
                rw [if_pos (show (y4.2.1 11) = (-1) from h7)] at hp
                refine ck_p (L' := [some (.ref a), some (.int v1), some (.int v2), some (.int 0)]) (st' := [.ref a]) k_Sk_goAlone rfl rfl ?_
                refine ck_p (L' := [some (.ref a), some (.int v1), some (.int v2), some (.int 0)]) (st' := [.ref a, .ref a]) k_Sk_goAlone rfl rfl ?_
                refine ck_g k_Sk_goAlone rfl rfl rfl rfl ?_
                cases hb8 : (y4.2.2.2.1 0) with
                | none =>
                  rw [hb8] at hp
                  try dsimp only at hp
                  cases hp
                | some b8 =>
                  rw [hb8] at hp
                  try dsimp only at hp
                  cases hy9 : egI y4.2.2.2.2.1 b8 6 0 with
                  | none =>
                    rw [hy9] at hp
                    cases hp
                  | some y9 =>
                    rw [hy9] at hp
                    try dsimp only at hp
                    refine ck_gE k_Sk_goAlone rfl rfl rfl (egI_of hy9) ?_
                    refine ck_pt k_Sk_goAlone rfl rfl rfl trivial (Nat.le_of_ble_eq_true rfl) rfl ?_
                    refine ck_p (L' := [some (.ref a), some (.int v1), some (.int v2), some (.int 0)]) (st' := [.ref a]) k_Sk_goAlone rfl rfl ?_
                    refine ck_p (L' := [some (.ref a), some (.int v1), some (.int v2), some (.int 0)]) (st' := [.int (-2), .ref a]) k_Sk_goAlone rfl rfl ?_
                    refine ck_pt k_Sk_goAlone rfl rfl rfl trivial (Nat.le_of_ble_eq_true rfl) rfl ?_
                    refine ck_p (L' := [some (.ref a), some (.int v1), some (.int v2), some (.int 0)]) (st' := [.int 1]) k_Sk_goAlone rfl rfl ?_
                    cases hp
                    exact ck_ret (v := some (.int _)) k_Sk_goAlone rfl rfl trivial rfl ⟨rfl, rfl⟩
              · skip
                rw [if_neg (show ¬ ((y4.2.1 11) = (-1)) from h7)] at hp
                refine ck_p (L' := [some (.ref a), some (.int v1), some (.int v2), some (.int 0)]) (st' := [.ref a]) k_Sk_goAlone rfl rfl ?_
                refine ck_g k_Sk_goAlone rfl rfl rfl rfl ?_
                cases hb10 : (y4.2.2.2.1 0) with
                | none =>
                  rw [hb10] at hp
                  try dsimp only at hp
                  cases hp
                | some b10 =>
                  rw [hb10] at hp
                  try dsimp only at hp
                  cases hy11 : egI y4.2.2.2.2.1 b10 6 1 with
                  | none =>
                    rw [hy11] at hp
                    cases hp
                  | some y11 =>
                    rw [hy11] at hp
                    try dsimp only at hp
                    refine ck_gE k_Sk_goAlone rfl rfl rfl (egI_of hy11) ?_
                    refine ck_p (L' := [some (.ref a), some (.int v1), some (.int v2), some (.int 0)]) (st' := [.int 1, .int y11]) k_Sk_goAlone rfl rfl ?_
                    refine ck_p (L' := [some (.ref a), some (.int v1), some (.int v2), some (.int 0)]) (st' := [.ref a, .int 1, .int y11]) k_Sk_goAlone rfl rfl ?_
                    refine ck_g k_Sk_goAlone rfl rfl rfl rfl ?_
                    refine ck_p (L' := [some (.ref a), some (.int v1), some (.int v2), some (.int 0)]) (st' := [.int ((1 : Int32) <<< ((y4.2.1 11) &&& 31)), .int y11]) k_Sk_goAlone rfl rfl ?_
                    refine ck_p (L' := [some (.ref a), some (.int v1), some (.int v2), some (.int 0)]) (st' := [.int (y11 &&& ((1 : Int32) <<< ((y4.2.1 11) &&& 31)))]) k_Sk_goAlone rfl rfl ?_
                    refine ck_if k_Sk_goAlone rfl rfl rfl (fun h12 => ?_) (fun h12 => ?_)
                    · skip
                      rw [if_pos (show (y11 &&& ((1 : Int32) <<< ((y4.2.1 11) &&& 31))) = 0 from h12)] at hp
                      refine ck_p (L' := [some (.ref a), some (.int v1), some (.int v2), some (.int 0)]) (st' := [.ref a]) k_Sk_goAlone rfl rfl ?_
                      refine ck_p (L' := [some (.ref a), some (.int v1), some (.int v2), some (.int 0)]) (st' := [.ref a, .ref a]) k_Sk_goAlone rfl rfl ?_
                      refine ck_g (v := .ref b10) k_Sk_goAlone rfl rfl rfl (by show some (va_rf (y4.2.2.2.1 0)) = _; rw [hb10]; rfl) ?_
                      cases hy13 : egI y4.2.2.2.2.1 b10 6 0 with
                      | none =>
                        rw [hy13] at hp
                        cases hp
                      | some y13 =>
                        rw [hy13] at hp
                        try dsimp only at hp
                        refine ck_gE k_Sk_goAlone rfl rfl rfl (egI_of hy13) ?_
                        refine ck_pt k_Sk_goAlone rfl rfl rfl trivial (Nat.le_of_ble_eq_true rfl) rfl ?_
                        refine ck_p (L' := [some (.ref a), some (.int v1), some (.int v2), some (.int 0)]) (st' := [.ref a]) k_Sk_goAlone rfl rfl ?_
                        refine ck_p (L' := [some (.ref a), some (.int v1), some (.int v2), some (.int 0)]) (st' := [.int (-2), .ref a]) k_Sk_goAlone rfl rfl ?_
                        refine ck_pt k_Sk_goAlone rfl rfl rfl trivial (Nat.le_of_ble_eq_true rfl) rfl ?_
                        refine ck_p (L' := [some (.ref a), some (.int v1), some (.int v2), some (.int 0)]) (st' := [.int 1]) k_Sk_goAlone rfl rfl ?_
                        cases hp
                        exact ck_ret (v := some (.int _)) k_Sk_goAlone rfl rfl trivial rfl ⟨rfl, rfl⟩
                    · skip
                      rw [if_neg (show ¬ ((y11 &&& ((1 : Int32) <<< ((y4.2.1 11) &&& 31))) = 0) from h12)] at hp
                      refine ck_p (L' := [some (.ref a), some (.int v1), some (.int v2), some (.int 0)]) (st' := [.int 0]) k_Sk_goAlone rfl rfl ?_
                      cases hp
                      exact ck_ret (v := some (.int _)) k_Sk_goAlone rfl rfl trivial rfl ⟨rfl, rfl⟩
            · skip
              exact absurd h6 (by decide)
          · skip
            rw [if_neg (show ¬ (y4.1 = 0) from h5)] at hp
            refine ck_p (L' := [some (.ref a), some (.int v1), some (.int v2), none]) (st' := [.int 1]) k_Sk_goAlone rfl rfl ?_
            refine ck_j k_Sk_goAlone rfl rfl ?_
            refine ck_p (L' := [some (.ref a), some (.int v1), some (.int v2), some (.int 1)]) (st' := []) k_Sk_goAlone rfl rfl ?_
            refine ck_p (L' := [some (.ref a), some (.int v1), some (.int v2), some (.int 1)]) (st' := [.int 1]) k_Sk_goAlone rfl rfl ?_
            refine ck_if k_Sk_goAlone rfl rfl rfl (fun h14 => ?_) (fun h14 => ?_)
            · skip
              exact absurd h14 (by decide)
            · skip
              refine ck_p (L' := [some (.ref a), some (.int v1), some (.int v2), some (.int 1)]) (st' := [.ref a]) k_Sk_goAlone rfl rfl ?_
              refine ck_g k_Sk_goAlone rfl rfl rfl rfl ?_
              refine ck_p (L' := [some (.ref a), some (.int v1), some (.int v2), some (.int 1)]) (st' := [.int (-1), .int (y4.2.1 11)]) k_Sk_goAlone rfl rfl ?_
              refine ck_ic k_Sk_goAlone rfl rfl rfl (fun h15 => ?_) (fun h15 => ?_)
              · skip
                rw [if_neg (show ¬ ((y4.2.1 11) = (-1)) from h15)] at hp
                refine ck_p (L' := [some (.ref a), some (.int v1), some (.int v2), some (.int 1)]) (st' := [.int 2]) k_Sk_goAlone rfl rfl ?_
                cases hp
                exact ck_ret (v := some (.int _)) k_Sk_goAlone rfl rfl trivial rfl ⟨rfl, rfl⟩
              · skip
                rw [if_pos (show (y4.2.1 11) = (-1) from h15)] at hp
                refine ck_p (L' := [some (.ref a), some (.int v1), some (.int v2), some (.int 1)]) (st' := [.int 0]) k_Sk_goAlone rfl rfl ?_
                refine ck_j k_Sk_goAlone rfl rfl ?_
                cases hp
                exact ck_ret (v := some (.int _)) k_Sk_goAlone rfl rfl trivial rfl ⟨rfl, rfl⟩
      · rw [if_neg g3] at hp
        cases hp
  · rw [if_neg g1] at hp
    cases hp
def sp_Sk_goBoth  (v1 : Int32) (v2 : Int32) (σ : ck_S) : Option (Int32 × ck_S) := (if gi v1 300 = true then (match (σ.2.2.1 0) with
  | none => none
  | some b2 => (if eo σ.2.2.2.1 b2 6 = true then (match sp_tkE b2 (σ.2.2.1 9) ((σ.2.1 1) v1.toNatClampNeg) v2 σ with
  | none => none
  | some y4 => (if y4.1 = 0 then (match (y4.2.2.2.1 0) with
  | none => none
  | some b6 => (match egI y4.2.2.2.2.1 b6 6 1 with
  | none => none
  | some y7 => (match egI y4.2.2.2.2.1 b6 6 0 with
  | none => none
  | some y8 => (if eo y4.2.2.2.2.1 b6 6 = true then (match sp_tkE b6 (y4.2.2.2.1 10) ((y4.2.2.1 2) v1.toNatClampNeg) v2 ((upd y4.2.1 12 y8), y4.2.2.1, y4.2.2.2.1, y4.2.2.2.2.1, y4.2.2.2.2.2.1, y4.2.2.2.2.2.2) with
  | none => none
  | some y10 => (if y10.1 = 0 then (match (y10.2.2.2.1 0) with
  | none => none
  | some b12 => (match egI y10.2.2.2.2.1 b12 6 0 with
  | none => none
  | some y13 => (match egI y10.2.2.2.2.1 b12 6 1 with
  | none => none
  | some y17 => (if y7 = y17 then some (1, ((upd y10.2.1 13 y13), y10.2.2.1, y10.2.2.2.1, y10.2.2.2.2.1, y10.2.2.2.2.2.1, y10.2.2.2.2.2.2)) else some (0, ((upd y10.2.1 13 y13), y10.2.2.1, y10.2.2.2.1, y10.2.2.2.2.1, y10.2.2.2.2.2.1, y10.2.2.2.2.2.2)))))) else (match (y10.2.2.2.1 0) with
  | none => none
  | some b19 => (match egI y10.2.2.2.2.1 b19 6 0 with
  | none => none
  | some y20 => some (0, ((upd y10.2.1 13 y20), y10.2.2.1, y10.2.2.2.1, y10.2.2.2.2.1, y10.2.2.2.2.2.1, y10.2.2.2.2.2.2)))))) else none)))) else (match (y4.2.2.2.1 0) with
  | none => none
  | some b24 => (match egI y4.2.2.2.2.1 b24 6 1 with
  | none => none
  | some y25 => (match egI y4.2.2.2.2.1 b24 6 0 with
  | none => none
  | some y26 => (if eo y4.2.2.2.2.1 b24 6 = true then (match sp_tkE b24 (y4.2.2.2.1 10) ((y4.2.2.1 2) v1.toNatClampNeg) v2 ((upd y4.2.1 12 y26), y4.2.2.1, y4.2.2.2.1, y4.2.2.2.2.1, y4.2.2.2.2.2.1, y4.2.2.2.2.2.2) with
  | none => none
  | some y28 => (if y28.1 = 0 then (match (y28.2.2.2.1 0) with
  | none => none
  | some b30 => (match egI y28.2.2.2.2.1 b30 6 0 with
  | none => none
  | some y31 => some (0, ((upd y28.2.1 13 y31), y28.2.2.1, y28.2.2.2.1, y28.2.2.2.2.1, y28.2.2.2.2.2.1, y28.2.2.2.2.2.2)))) else (match (y28.2.2.2.1 0) with
  | none => none
  | some b35 => (match egI y28.2.2.2.2.1 b35 6 0 with
  | none => none
  | some y36 => some (2, ((upd y28.2.1 13 y36), y28.2.2.1, y28.2.2.2.1, y28.2.2.2.2.1, y28.2.2.2.2.2.1, y28.2.2.2.2.2.2)))))) else none)))))) else none)) else none)
theorem c_sp_Sk_goBoth  {v1 : Int32} {v2 : Int32} {σ : ck_S} {r : Int32 × ck_S} (hp : sp_Sk_goBoth  v1 v2 σ = some r) : ck_Has l F (d + 1203) m_Sk_goBoth sk_K a A [.ref a, .int v1, .int v2] σ (fun w σ' => w = some (.int r.1) ∧ σ' = r.2) := by
  refine ck_meth (k := 3) (L := [some (.ref a), some (.int v1), some (.int v2), none, none, none]) pn_Sk rfl (Nat.le_of_ble_eq_true rfl) ?_
  unfold sp_Sk_goBoth at hp
  refine ck_p (L' := [some (.ref a), some (.int v1), some (.int v2), none, none, none]) (st' := [.ref a]) k_Sk_goBoth rfl rfl ?_
  refine ck_g k_Sk_goBoth rfl rfl rfl rfl ?_
  refine ck_p (L' := [some (.ref a), some (.int v1), some (.int v2), none, none, none]) (st' := [.ref a, va_rf (σ.2.2.1 0)]) k_Sk_goBoth rfl rfl ?_
  refine ck_g k_Sk_goBoth rfl rfl rfl rfl ?_
  refine ck_p (L' := [some (.ref a), some (.int v1), some (.int v2), none, none, none]) (st' := [.ref a, va_rf (σ.2.2.1 9), va_rf (σ.2.2.1 0)]) k_Sk_goBoth rfl rfl ?_
  refine ck_g k_Sk_goBoth rfl rfl rfl rfl ?_
  refine ck_p (L' := [some (.ref a), some (.int v1), some (.int v2), none, none, none]) (st' := [.int v1, .ref (A 1), va_rf (σ.2.2.1 9), va_rf (σ.2.2.1 0)]) k_Sk_goBoth rfl rfl ?_
  by_cases g1 : gi v1 300 = true
  · rw [if_pos g1] at hp
    refine ck_ld k_Sk_goBoth rfl rfl rfl (gi_in g1) (by decide) ?_
    refine ck_p (L' := [some (.ref a), some (.int v1), some (.int v2), none, none, none]) (st' := [.int v2, .int ((σ.2.1 1) v1.toNatClampNeg), va_rf (σ.2.2.1 9), va_rf (σ.2.2.1 0)]) k_Sk_goBoth rfl rfl ?_
    cases hb2 : (σ.2.2.1 0) with
    | none =>
      rw [hb2] at hp
      try dsimp only at hp
      cases hp
    | some b2 =>
      rw [hb2] at hp
      try dsimp only at hp
      by_cases g3 : eo σ.2.2.2.1 b2 6 = true
      · rw [if_pos g3] at hp
        cases hy4 : sp_tkE b2 (σ.2.2.1 9) ((σ.2.1 1) v1.toNatClampNeg) v2 σ with
        | none =>
          rw [hy4] at hp
          cases hp
        | some y4 =>
          rw [hy4] at hp
          try dsimp only at hp
          refine ck_ivO (M' := m_Tk_go) (As := [va_rf (σ.2.2.1 9), .int ((σ.2.1 1) v1.toNatClampNeg), .int v2]) k_Sk_goBoth rfl rfl rfl rfl rfl g3 rfl rfl (Nat.le_of_ble_eq_true rfl) (c_tkE hy4) (fun hby4 => ?_)
          refine ck_if k_Sk_goBoth rfl rfl rfl (fun h5 => ?_) (fun h5 => ?_)
          · skip
            rw [if_pos (show y4.1 = 0 from h5)] at hp
            refine ck_p (L' := [some (.ref a), some (.int v1), some (.int v2), none, none, none]) (st' := [.int 0]) k_Sk_goBoth rfl rfl ?_
            refine ck_p (L' := [some (.ref a), some (.int v1), some (.int v2), some (.int 0), none, none]) (st' := []) k_Sk_goBoth rfl rfl ?_
            refine ck_p (L' := [some (.ref a), some (.int v1), some (.int v2), some (.int 0), none, none]) (st' := [.ref a]) k_Sk_goBoth rfl rfl ?_
            refine ck_g k_Sk_goBoth rfl rfl rfl rfl ?_
            cases hb6 : (y4.2.2.2.1 0) with
            | none =>
              rw [hb6] at hp
              try dsimp only at hp
              cases hp
            | some b6 =>
              rw [hb6] at hp
              try dsimp only at hp
              cases hy7 : egI y4.2.2.2.2.1 b6 6 1 with
              | none =>
                rw [hy7] at hp
                cases hp
              | some y7 =>
                rw [hy7] at hp
                try dsimp only at hp
                refine ck_gE k_Sk_goBoth rfl rfl rfl (egI_of hy7) ?_
                refine ck_p (L' := [some (.ref a), some (.int v1), some (.int v2), some (.int 0), some (.int y7), none]) (st' := []) k_Sk_goBoth rfl rfl ?_
                refine ck_p (L' := [some (.ref a), some (.int v1), some (.int v2), some (.int 0), some (.int y7), none]) (st' := [.ref a]) k_Sk_goBoth rfl rfl ?_
                refine ck_p (L' := [some (.ref a), some (.int v1), some (.int v2), some (.int 0), some (.int y7), none]) (st' := [.ref a, .ref a]) k_Sk_goBoth rfl rfl ?_
                refine ck_g (v := .ref b6) k_Sk_goBoth rfl rfl rfl (by show some (va_rf (y4.2.2.2.1 0)) = _; rw [hb6]; rfl) ?_
                cases hy8 : egI y4.2.2.2.2.1 b6 6 0 with
                | none =>
                  rw [hy8] at hp
                  cases hp
                | some y8 =>
                  rw [hy8] at hp
                  try dsimp only at hp
                  refine ck_gE k_Sk_goBoth rfl rfl rfl (egI_of hy8) ?_
                  refine ck_pt k_Sk_goBoth rfl rfl rfl trivial (Nat.le_of_ble_eq_true rfl) rfl ?_
                  refine ck_p (L' := [some (.ref a), some (.int v1), some (.int v2), some (.int 0), some (.int y7), none]) (st' := [.ref a]) k_Sk_goBoth rfl rfl ?_
                  refine ck_g (v := .ref b6) k_Sk_goBoth rfl rfl rfl (by show some (va_rf (y4.2.2.2.1 0)) = _; rw [hb6]; rfl) ?_
                  refine ck_p (L' := [some (.ref a), some (.int v1), some (.int v2), some (.int 0), some (.int y7), none]) (st' := [.ref a, .ref b6]) k_Sk_goBoth rfl rfl ?_
                  refine ck_g k_Sk_goBoth rfl rfl rfl rfl ?_
                  refine ck_p (L' := [some (.ref a), some (.int v1), some (.int v2), some (.int 0), some (.int y7), none]) (st' := [.ref a, va_rf (y4.2.2.2.1 10), .ref b6]) k_Sk_goBoth rfl rfl ?_
                  refine ck_g k_Sk_goBoth rfl rfl rfl rfl ?_
                  refine ck_p (L' := [some (.ref a), some (.int v1), some (.int v2), some (.int 0), some (.int y7), none]) (st' := [.int v1, .ref (A 2), va_rf (y4.2.2.2.1 10), .ref b6]) k_Sk_goBoth rfl rfl ?_
                  refine ck_ld k_Sk_goBoth rfl rfl rfl (gi_in g1) (by decide) ?_
                  refine ck_p (L' := [some (.ref a), some (.int v1), some (.int v2), some (.int 0), some (.int y7), none]) (st' := [.int v2, .int ((y4.2.2.1 2) v1.toNatClampNeg), va_rf (y4.2.2.2.1 10), .ref b6]) k_Sk_goBoth rfl rfl ?_
                  by_cases g9 : eo y4.2.2.2.2.1 b6 6 = true
                  · rw [if_pos g9] at hp
                    cases hy10 : sp_tkE b6 (y4.2.2.2.1 10) ((y4.2.2.1 2) v1.toNatClampNeg) v2 ((upd y4.2.1 12 y8), y4.2.2.1, y4.2.2.2.1, y4.2.2.2.2.1, y4.2.2.2.2.2.1, y4.2.2.2.2.2.2) with
                    | none =>
                      rw [hy10] at hp
                      cases hp
                    | some y10 =>
                      rw [hy10] at hp
                      try dsimp only at hp
                      refine ck_ivO (M' := m_Tk_go) (As := [va_rf (y4.2.2.2.1 10), .int ((y4.2.2.1 2) v1.toNatClampNeg), .int v2]) k_Sk_goBoth rfl rfl rfl rfl rfl g9 rfl rfl (Nat.le_of_ble_eq_true rfl) (c_tkE hy10) (fun hby10 => ?_)
                      refine ck_if k_Sk_goBoth rfl rfl rfl (fun h11 => ?_) (fun h11 => ?_)
                      · skip
                        rw [if_pos (show y10.1 = 0 from h11)] at hp
                        refine ck_p (L' := [some (.ref a), some (.int v1), some (.int v2), some (.int 0), some (.int y7), none]) (st' := [.int 0]) k_Sk_goBoth rfl rfl ?_
                        refine ck_p (L' := [some (.ref a), some (.int v1), some (.int v2), some (.int 0), some (.int y7), some (.int 0)]) (st' := []) k_Sk_goBoth rfl rfl ?_
                        refine ck_p (L' := [some (.ref a), some (.int v1), some (.int v2), some (.int 0), some (.int y7), some (.int 0)]) (st' := [.ref a]) k_Sk_goBoth rfl rfl ?_
                        refine ck_p (L' := [some (.ref a), some (.int v1), some (.int v2), some (.int 0), some (.int y7), some (.int 0)]) (st' := [.ref a, .ref a]) k_Sk_goBoth rfl rfl ?_
                        refine ck_g k_Sk_goBoth rfl rfl rfl rfl ?_
                        cases hb12 : (y10.2.2.2.1 0) with
                        | none =>
                          rw [hb12] at hp
                          try dsimp only at hp
                          cases hp
                        | some b12 =>
                          rw [hb12] at hp
                          try dsimp only at hp
                          cases hy13 : egI y10.2.2.2.2.1 b12 6 0 with
                          | none =>
                            rw [hy13] at hp
                            cases hp
                          | some y13 =>
                            rw [hy13] at hp
                            try dsimp only at hp
                            refine ck_gE k_Sk_goBoth rfl rfl rfl (egI_of hy13) ?_
                            refine ck_pt k_Sk_goBoth rfl rfl rfl trivial (Nat.le_of_ble_eq_true rfl) rfl ?_
                            refine ck_p (L' := [some (.ref a), some (.int v1), some (.int v2), some (.int 0), some (.int y7), some (.int 0)]) (st' := [.int 0]) k_Sk_goBoth rfl rfl ?_
                            refine ck_if k_Sk_goBoth rfl rfl rfl (fun h14 => ?_) (fun h14 => ?_)
                            · skip
                              refine ck_p (L' := [some (.ref a), some (.int v1), some (.int v2), some (.int 0), some (.int y7), some (.int 0)]) (st' := [.int 0]) k_Sk_goBoth rfl rfl ?_
                              refine ck_if k_Sk_goBoth rfl rfl rfl (fun h15 => ?_) (fun h15 => ?_)
                              · skip
                                exact absurd h15 (by decide)
                              · skip
                                refine ck_p (L' := [some (.ref a), some (.int v1), some (.int v2), some (.int 0), some (.int y7), some (.int 0)]) (st' := [.int 0]) k_Sk_goBoth rfl rfl ?_
                                refine ck_if k_Sk_goBoth rfl rfl rfl (fun h16 => ?_) (fun h16 => ?_)
                                · skip
                                  exact absurd h16 (by decide)
                                · skip
                                  refine ck_p (L' := [some (.ref a), some (.int v1), some (.int v2), some (.int 0), some (.int y7), some (.int 0)]) (st' := [.int y7]) k_Sk_goBoth rfl rfl ?_
                                  refine ck_p (L' := [some (.ref a), some (.int v1), some (.int v2), some (.int 0), some (.int y7), some (.int 0)]) (st' := [.ref a, .int y7]) k_Sk_goBoth rfl rfl ?_
                                  refine ck_g (v := .ref b12) k_Sk_goBoth rfl rfl rfl (by show some (va_rf (y10.2.2.2.1 0)) = _; rw [hb12]; rfl) ?_
                                  cases hy17 : egI y10.2.2.2.2.1 b12 6 1 with
                                  | none =>
                                    rw [hy17] at hp
                                    cases hp
                                  | some y17 =>
                                    rw [hy17] at hp
                                    try dsimp only at hp
                                    refine ck_gE k_Sk_goBoth rfl rfl rfl (egI_of hy17) ?_
                                    refine ck_ic k_Sk_goBoth rfl rfl rfl (fun h18 => ?_) (fun h18 => ?_)
                                    · skip
                                      rw [if_pos (show y7 = y17 from h18)] at hp
                                      refine ck_p (L' := [some (.ref a), some (.int v1), some (.int v2), some (.int 0), some (.int y7), some (.int 0)]) (st' := [.int 1]) k_Sk_goBoth rfl rfl ?_
                                      cases hp
                                      exact ck_ret (v := some (.int _)) k_Sk_goBoth rfl rfl trivial rfl ⟨rfl, rfl⟩
                                    · skip
                                      rw [if_neg (show ¬ (y7 = y17) from h18)] at hp
                                      refine ck_p (L' := [some (.ref a), some (.int v1), some (.int v2), some (.int 0), some (.int y7), some (.int 0)]) (st' := [.int 0]) k_Sk_goBoth rfl rfl ?_
                                      refine ck_j k_Sk_goBoth rfl rfl ?_
                                      cases hp
                                      exact ck_ret (v := some (.int _)) k_Sk_goBoth rfl rfl trivial rfl ⟨rfl, rfl⟩
                            · skip
                              exact absurd h14 (by decide)
                      · skip
                        rw [if_neg (show ¬ (y10.1 = 0) from h11)] at hp
                        refine ck_p (L' := [some (.ref a), some (.int v1), some (.int v2), some (.int 0), some (.int y7), none]) (st' := [.int 1]) k_Sk_goBoth rfl rfl ?_
                        refine ck_j k_Sk_goBoth rfl rfl ?_
                        refine ck_p (L' := [some (.ref a), some (.int v1), some (.int v2), some (.int 0), some (.int y7), some (.int 1)]) (st' := []) k_Sk_goBoth rfl rfl ?_
                        refine ck_p (L' := [some (.ref a), some (.int v1), some (.int v2), some (.int 0), some (.int y7), some (.int 1)]) (st' := [.ref a]) k_Sk_goBoth rfl rfl ?_
                        refine ck_p (L' := [some (.ref a), some (.int v1), some (.int v2), some (.int 0), some (.int y7), some (.int 1)]) (st' := [.ref a, .ref a]) k_Sk_goBoth rfl rfl ?_
                        refine ck_g k_Sk_goBoth rfl rfl rfl rfl ?_
                        cases hb19 : (y10.2.2.2.1 0) with
                        | none =>
                          rw [hb19] at hp
                          try dsimp only at hp
                          cases hp
                        | some b19 =>
                          rw [hb19] at hp
                          try dsimp only at hp
                          cases hy20 : egI y10.2.2.2.2.1 b19 6 0 with
                          | none =>
                            rw [hy20] at hp
                            cases hp
                          | some y20 =>
                            rw [hy20] at hp
                            try dsimp only at hp
                            refine ck_gE k_Sk_goBoth rfl rfl rfl (egI_of hy20) ?_
                            refine ck_pt k_Sk_goBoth rfl rfl rfl trivial (Nat.le_of_ble_eq_true rfl) rfl ?_
                            refine ck_p (L' := [some (.ref a), some (.int v1), some (.int v2), some (.int 0), some (.int y7), some (.int 1)]) (st' := [.int 0]) k_Sk_goBoth rfl rfl ?_
                            refine ck_if k_Sk_goBoth rfl rfl rfl (fun h21 => ?_) (fun h21 => ?_)
                            · skip
                              refine ck_p (L' := [some (.ref a), some (.int v1), some (.int v2), some (.int 0), some (.int y7), some (.int 1)]) (st' := [.int 0]) k_Sk_goBoth rfl rfl ?_
                              refine ck_if k_Sk_goBoth rfl rfl rfl (fun h22 => ?_) (fun h22 => ?_)
                              · skip
                                exact absurd h22 (by decide)
                              · skip
                                refine ck_p (L' := [some (.ref a), some (.int v1), some (.int v2), some (.int 0), some (.int y7), some (.int 1)]) (st' := [.int 1]) k_Sk_goBoth rfl rfl ?_
                                refine ck_if k_Sk_goBoth rfl rfl rfl (fun h23 => ?_) (fun h23 => ?_)
                                · skip
                                  refine ck_p (L' := [some (.ref a), some (.int v1), some (.int v2), some (.int 0), some (.int y7), some (.int 1)]) (st' := [.int 0]) k_Sk_goBoth rfl rfl ?_
                                  refine ck_j k_Sk_goBoth rfl rfl ?_
                                  cases hp
                                  exact ck_ret (v := some (.int _)) k_Sk_goBoth rfl rfl trivial rfl ⟨rfl, rfl⟩
                                · skip
                                  exact absurd h23 (by decide)
                            · skip
                              exact absurd h21 (by decide)
                  · rw [if_neg g9] at hp
                    cases hp
          · skip
            rw [if_neg (show ¬ (y4.1 = 0) from h5)] at hp
            refine ck_p (L' := [some (.ref a), some (.int v1), some (.int v2), none, none, none]) (st' := [.int 1]) k_Sk_goBoth rfl rfl ?_
            refine ck_j k_Sk_goBoth rfl rfl ?_
            refine ck_p (L' := [some (.ref a), some (.int v1), some (.int v2), some (.int 1), none, none]) (st' := []) k_Sk_goBoth rfl rfl ?_
            refine ck_p (L' := [some (.ref a), some (.int v1), some (.int v2), some (.int 1), none, none]) (st' := [.ref a]) k_Sk_goBoth rfl rfl ?_
            refine ck_g k_Sk_goBoth rfl rfl rfl rfl ?_
            cases hb24 : (y4.2.2.2.1 0) with
            | none =>
              rw [hb24] at hp
              try dsimp only at hp
              cases hp
            | some b24 =>
              rw [hb24] at hp
              try dsimp only at hp
              cases hy25 : egI y4.2.2.2.2.1 b24 6 1 with
              | none =>
                rw [hy25] at hp
                cases hp
              | some y25 =>
                rw [hy25] at hp
                try dsimp only at hp
                refine ck_gE k_Sk_goBoth rfl rfl rfl (egI_of hy25) ?_
                refine ck_p (L' := [some (.ref a), some (.int v1), some (.int v2), some (.int 1), some (.int y25), none]) (st' := []) k_Sk_goBoth rfl rfl ?_
                refine ck_p (L' := [some (.ref a), some (.int v1), some (.int v2), some (.int 1), some (.int y25), none]) (st' := [.ref a]) k_Sk_goBoth rfl rfl ?_
                refine ck_p (L' := [some (.ref a), some (.int v1), some (.int v2), some (.int 1), some (.int y25), none]) (st' := [.ref a, .ref a]) k_Sk_goBoth rfl rfl ?_
                refine ck_g (v := .ref b24) k_Sk_goBoth rfl rfl rfl (by show some (va_rf (y4.2.2.2.1 0)) = _; rw [hb24]; rfl) ?_
                cases hy26 : egI y4.2.2.2.2.1 b24 6 0 with
                | none =>
                  rw [hy26] at hp
                  cases hp
                | some y26 =>
                  rw [hy26] at hp
                  try dsimp only at hp
                  refine ck_gE k_Sk_goBoth rfl rfl rfl (egI_of hy26) ?_
                  refine ck_pt k_Sk_goBoth rfl rfl rfl trivial (Nat.le_of_ble_eq_true rfl) rfl ?_
                  refine ck_p (L' := [some (.ref a), some (.int v1), some (.int v2), some (.int 1), some (.int y25), none]) (st' := [.ref a]) k_Sk_goBoth rfl rfl ?_
                  refine ck_g (v := .ref b24) k_Sk_goBoth rfl rfl rfl (by show some (va_rf (y4.2.2.2.1 0)) = _; rw [hb24]; rfl) ?_
                  refine ck_p (L' := [some (.ref a), some (.int v1), some (.int v2), some (.int 1), some (.int y25), none]) (st' := [.ref a, .ref b24]) k_Sk_goBoth rfl rfl ?_
                  refine ck_g k_Sk_goBoth rfl rfl rfl rfl ?_
                  refine ck_p (L' := [some (.ref a), some (.int v1), some (.int v2), some (.int 1), some (.int y25), none]) (st' := [.ref a, va_rf (y4.2.2.2.1 10), .ref b24]) k_Sk_goBoth rfl rfl ?_
                  refine ck_g k_Sk_goBoth rfl rfl rfl rfl ?_
                  refine ck_p (L' := [some (.ref a), some (.int v1), some (.int v2), some (.int 1), some (.int y25), none]) (st' := [.int v1, .ref (A 2), va_rf (y4.2.2.2.1 10), .ref b24]) k_Sk_goBoth rfl rfl ?_
                  refine ck_ld k_Sk_goBoth rfl rfl rfl (gi_in g1) (by decide) ?_
                  refine ck_p (L' := [some (.ref a), some (.int v1), some (.int v2), some (.int 1), some (.int y25), none]) (st' := [.int v2, .int ((y4.2.2.1 2) v1.toNatClampNeg), va_rf (y4.2.2.2.1 10), .ref b24]) k_Sk_goBoth rfl rfl ?_
                  by_cases g27 : eo y4.2.2.2.2.1 b24 6 = true
                  · rw [if_pos g27] at hp
                    cases hy28 : sp_tkE b24 (y4.2.2.2.1 10) ((y4.2.2.1 2) v1.toNatClampNeg) v2 ((upd y4.2.1 12 y26), y4.2.2.1, y4.2.2.2.1, y4.2.2.2.2.1, y4.2.2.2.2.2.1, y4.2.2.2.2.2.2) with
                    | none =>
                      rw [hy28] at hp
                      cases hp
                    | some y28 =>
                      rw [hy28] at hp
                      try dsimp only at hp
                      refine ck_ivO (M' := m_Tk_go) (As := [va_rf (y4.2.2.2.1 10), .int ((y4.2.2.1 2) v1.toNatClampNeg), .int v2]) k_Sk_goBoth rfl rfl rfl rfl rfl g27 rfl rfl (Nat.le_of_ble_eq_true rfl) (c_tkE hy28) (fun hby28 => ?_)
                      refine ck_if k_Sk_goBoth rfl rfl rfl (fun h29 => ?_) (fun h29 => ?_)
                      · skip
                        rw [if_pos (show y28.1 = 0 from h29)] at hp
                        refine ck_p (L' := [some (.ref a), some (.int v1), some (.int v2), some (.int 1), some (.int y25), none]) (st' := [.int 0]) k_Sk_goBoth rfl rfl ?_
                        refine ck_p (L' := [some (.ref a), some (.int v1), some (.int v2), some (.int 1), some (.int y25), some (.int 0)]) (st' := []) k_Sk_goBoth rfl rfl ?_
                        refine ck_p (L' := [some (.ref a), some (.int v1), some (.int v2), some (.int 1), some (.int y25), some (.int 0)]) (st' := [.ref a]) k_Sk_goBoth rfl rfl ?_
                        refine ck_p (L' := [some (.ref a), some (.int v1), some (.int v2), some (.int 1), some (.int y25), some (.int 0)]) (st' := [.ref a, .ref a]) k_Sk_goBoth rfl rfl ?_
                        refine ck_g k_Sk_goBoth rfl rfl rfl rfl ?_
                        cases hb30 : (y28.2.2.2.1 0) with
                        | none =>
                          rw [hb30] at hp
                          try dsimp only at hp
                          cases hp
                        | some b30 =>
                          rw [hb30] at hp
                          try dsimp only at hp
                          cases hy31 : egI y28.2.2.2.2.1 b30 6 0 with
                          | none =>
                            rw [hy31] at hp
                            cases hp
                          | some y31 =>
                            rw [hy31] at hp
                            try dsimp only at hp
                            refine ck_gE k_Sk_goBoth rfl rfl rfl (egI_of hy31) ?_
                            refine ck_pt k_Sk_goBoth rfl rfl rfl trivial (Nat.le_of_ble_eq_true rfl) rfl ?_
                            refine ck_p (L' := [some (.ref a), some (.int v1), some (.int v2), some (.int 1), some (.int y25), some (.int 0)]) (st' := [.int 1]) k_Sk_goBoth rfl rfl ?_
                            refine ck_if k_Sk_goBoth rfl rfl rfl (fun h32 => ?_) (fun h32 => ?_)
                            · skip
                              exact absurd h32 (by decide)
                            · skip
                              refine ck_p (L' := [some (.ref a), some (.int v1), some (.int v2), some (.int 1), some (.int y25), some (.int 0)]) (st' := [.int 0]) k_Sk_goBoth rfl rfl ?_
                              refine ck_if k_Sk_goBoth rfl rfl rfl (fun h33 => ?_) (fun h33 => ?_)
                              · skip
                                refine ck_p (L' := [some (.ref a), some (.int v1), some (.int v2), some (.int 1), some (.int y25), some (.int 0)]) (st' := [.int 1]) k_Sk_goBoth rfl rfl ?_
                                refine ck_if k_Sk_goBoth rfl rfl rfl (fun h34 => ?_) (fun h34 => ?_)
                                · skip
                                  refine ck_p (L' := [some (.ref a), some (.int v1), some (.int v2), some (.int 1), some (.int y25), some (.int 0)]) (st' := [.int 0]) k_Sk_goBoth rfl rfl ?_
                                  refine ck_j k_Sk_goBoth rfl rfl ?_
                                  cases hp
                                  exact ck_ret (v := some (.int _)) k_Sk_goBoth rfl rfl trivial rfl ⟨rfl, rfl⟩
                                · skip
                                  exact absurd h34 (by decide)
                              · skip
                                exact absurd h33 (by decide)
                      · skip
                        rw [if_neg (show ¬ (y28.1 = 0) from h29)] at hp
                        refine ck_p (L' := [some (.ref a), some (.int v1), some (.int v2), some (.int 1), some (.int y25), none]) (st' := [.int 1]) k_Sk_goBoth rfl rfl ?_
                        refine ck_j k_Sk_goBoth rfl rfl ?_
                        refine ck_p (L' := [some (.ref a), some (.int v1), some (.int v2), some (.int 1), some (.int y25), some (.int 1)]) (st' := []) k_Sk_goBoth rfl rfl ?_
                        refine ck_p (L' := [some (.ref a), some (.int v1), some (.int v2), some (.int 1), some (.int y25), some (.int 1)]) (st' := [.ref a]) k_Sk_goBoth rfl rfl ?_
                        refine ck_p (L' := [some (.ref a), some (.int v1), some (.int v2), some (.int 1), some (.int y25), some (.int 1)]) (st' := [.ref a, .ref a]) k_Sk_goBoth rfl rfl ?_
                        refine ck_g k_Sk_goBoth rfl rfl rfl rfl ?_
                        cases hb35 : (y28.2.2.2.1 0) with
                        | none =>
                          rw [hb35] at hp
                          try dsimp only at hp
                          cases hp
                        | some b35 =>
                          rw [hb35] at hp
                          try dsimp only at hp
                          cases hy36 : egI y28.2.2.2.2.1 b35 6 0 with
                          | none =>
                            rw [hy36] at hp
                            cases hp
                          | some y36 =>
                            rw [hy36] at hp
                            try dsimp only at hp
                            refine ck_gE k_Sk_goBoth rfl rfl rfl (egI_of hy36) ?_
                            refine ck_pt k_Sk_goBoth rfl rfl rfl trivial (Nat.le_of_ble_eq_true rfl) rfl ?_
                            refine ck_p (L' := [some (.ref a), some (.int v1), some (.int v2), some (.int 1), some (.int y25), some (.int 1)]) (st' := [.int 1]) k_Sk_goBoth rfl rfl ?_
                            refine ck_if k_Sk_goBoth rfl rfl rfl (fun h37 => ?_) (fun h37 => ?_)
                            · skip
                              exact absurd h37 (by decide)
                            · skip
                              refine ck_p (L' := [some (.ref a), some (.int v1), some (.int v2), some (.int 1), some (.int y25), some (.int 1)]) (st' := [.int 1]) k_Sk_goBoth rfl rfl ?_
                              refine ck_if k_Sk_goBoth rfl rfl rfl (fun h38 => ?_) (fun h38 => ?_)
                              · skip
                                exact absurd h38 (by decide)
                              · skip
                                refine ck_p (L' := [some (.ref a), some (.int v1), some (.int v2), some (.int 1), some (.int y25), some (.int 1)]) (st' := [.int 2]) k_Sk_goBoth rfl rfl ?_
                                cases hp
                                exact ck_ret (v := some (.int _)) k_Sk_goBoth rfl rfl trivial rfl ⟨rfl, rfl⟩
                  · rw [if_neg g27] at hp
                    cases hp
      · rw [if_neg g3] at hp
        cases hp
  · rw [if_neg g1] at hp
    cases hp
def sp_Sk_seek_77  (kk57 : Option Nat → Option Nat → Int32 → Int32 → Int32 → Int32 → ck_S → Option (Int32 × ck_S)) : Nat → Option Nat → Option Nat → Int32 → Int32 → Int32 → Int32 → Int32 → ck_S → Option (Int32 × ck_S)
  | 0, _, _, _, _, _, _, _, _ => none
  | m + 1, v1, v2, v3, v4, v5, v6, v7, σ => (if v5 ≤ v7 then kk57 v1 v2 v3 v4 v5 (v6 + 1) σ else (match (σ.2.2.1 10) with
  | none => (match sp_Sk_goAlone  v6 v7 σ with
  | none => none
  | some y7 => (if y7.1 = 0 then (match sp_Sk_keepRun  v6 v7 y7.2 with
  | none => none
  | some y15 => some (1, y15)) else (if y7.1 = 1 then (match sp_Sk_isNew   y7.2 with
  | none => none
  | some y10 => (if y10.1 = 0 then sp_Sk_seek_77   kk57 m v1 v2 v3 v4 v5 v6 (v7 + 1) y10.2 else (if v4 ≤ (y10.2.1 6) then some (2, y10.2) else (if (y10.2.1 6) < 300 then (match sp_Sk_keepState  v6 v7 y10.2 with
  | none => none
  | some y14 => sp_Sk_seek_77   kk57 m v1 v2 v3 v4 v5 v6 (v7 + 1) y14) else some (2, y10.2))))) else sp_Sk_seek_77   kk57 m v1 v2 v3 v4 v5 v6 (v7 + 1) y7.2)))
  | some b6 => (match sp_Sk_goBoth  v6 v7 σ with
  | none => none
  | some y16 => (if y16.1 = 0 then (match sp_Sk_keepRun  v6 v7 y16.2 with
  | none => none
  | some y24 => some (1, y24)) else (if y16.1 = 1 then (match sp_Sk_isNew   y16.2 with
  | none => none
  | some y19 => (if y19.1 = 0 then sp_Sk_seek_77   kk57 m v1 v2 v3 v4 v5 v6 (v7 + 1) y19.2 else (if v4 ≤ (y19.2.1 6) then some (2, y19.2) else (if (y19.2.1 6) < 300 then (match sp_Sk_keepState  v6 v7 y19.2 with
  | none => none
  | some y23 => sp_Sk_seek_77   kk57 m v1 v2 v3 v4 v5 v6 (v7 + 1) y23) else some (2, y19.2))))) else sp_Sk_seek_77   kk57 m v1 v2 v3 v4 v5 v6 (v7 + 1) y16.2)))))
theorem c_sp_Sk_seek_77  {kk57 : Option Nat → Option Nat → Int32 → Int32 → Int32 → Int32 → ck_S → Option (Int32 × ck_S)} {r : Int32 × ck_S} (hkk57 : ∀ (v1 : Option Nat) (v2 : Option Nat) (v3 : Int32) (v4 : Int32) (v5 : Int32) (v6 : Int32) (σ : ck_S), kk57 v1 v2 v3 v4 v5 v6 σ = some r → ∀ x7 x8 : Option Value, ck_Go l F (d + 1204) m_Sk_seek sk_K a A 57 ([some (.ref a), some (va_rf v1), some (va_rf v2), some (.int v3), some (.int v4), some (.int v5), some (.int v6), x7, x8]) [] σ (fun w σ' => w = some (.int r.1) ∧ σ' = r.2)) : ∀ (m : Nat) (v1 : Option Nat) (v2 : Option Nat) (v3 : Int32) (v4 : Int32) (v5 : Int32) (v6 : Int32) (v7 : Int32) (σ : ck_S), sp_Sk_seek_77  kk57 m v1 v2 v3 v4 v5 v6 v7 σ = some r → ∀ x8 : Option Value, ck_Go l F (d + 1204) m_Sk_seek sk_K a A 77 ([some (.ref a), some (va_rf v1), some (va_rf v2), some (.int v3), some (.int v4), some (.int v5), some (.int v6), some (.int v7), x8]) [] σ (fun w σ' => w = some (.int r.1) ∧ σ' = r.2) := by
  intro m
  induction m with
  | zero => intro v1 v2 v3 v4 v5 v6 v7 σ hp; cases hp
  | succ m ihm =>
    intro v1 v2 v3 v4 v5 v6 v7 σ hp x8
    unfold sp_Sk_seek_77 at hp
    refine ck_p (L' := [some (.ref a), some (va_rf v1), some (va_rf v2), some (.int v3), some (.int v4), some (.int v5), some (.int v6), some (.int v7), x8]) (st' := [.int v7]) k_Sk_seek rfl rfl ?_
    refine ck_p (L' := [some (.ref a), some (va_rf v1), some (va_rf v2), some (.int v3), some (.int v4), some (.int v5), some (.int v6), some (.int v7), x8]) (st' := [.int v5, .int v7]) k_Sk_seek rfl rfl ?_
    refine ck_ic k_Sk_seek rfl rfl rfl (fun h5 => ?_) (fun h5 => ?_)
    · skip
      rw [if_pos (show v5 ≤ v7 from h5)] at hp
      refine ck_p (L' := [some (.ref a), some (va_rf v1), some (va_rf v2), some (.int v3), some (.int v4), some (.int v5), some (.int (v6 + 1)), some (.int v7), x8]) (st' := []) k_Sk_seek rfl rfl ?_
      refine ck_j k_Sk_seek rfl rfl ?_
      exact hkk57 _ _ _ _ _ _ _ hp _ _
    · skip
      rw [if_neg (show ¬ (v5 ≤ v7) from h5)] at hp
      refine ck_p (L' := [some (.ref a), some (va_rf v1), some (va_rf v2), some (.int v3), some (.int v4), some (.int v5), some (.int v6), some (.int v7), x8]) (st' := [.ref a]) k_Sk_seek rfl rfl ?_
      refine ck_g k_Sk_seek rfl rfl rfl rfl ?_
      cases hb6 : (σ.2.2.1 10) with
      | none =>
        rw [hb6] at hp
        try dsimp only at hp
        refine ck_j k_Sk_seek rfl rfl ?_
        refine ck_p (L' := [some (.ref a), some (va_rf v1), some (va_rf v2), some (.int v3), some (.int v4), some (.int v5), some (.int v6), some (.int v7), x8]) (st' := [.ref a]) k_Sk_seek rfl rfl ?_
        refine ck_p (L' := [some (.ref a), some (va_rf v1), some (va_rf v2), some (.int v3), some (.int v4), some (.int v5), some (.int v6), some (.int v7), x8]) (st' := [.int v6, .ref a]) k_Sk_seek rfl rfl ?_
        refine ck_p (L' := [some (.ref a), some (va_rf v1), some (va_rf v2), some (.int v3), some (.int v4), some (.int v5), some (.int v6), some (.int v7), x8]) (st' := [.int v7, .int v6, .ref a]) k_Sk_seek rfl rfl ?_
        cases hy7 : sp_Sk_goAlone  v6 v7 σ with
        | none =>
          rw [hy7] at hp
          cases hp
        | some y7 =>
          rw [hy7] at hp
          try dsimp only at hp
          refine ck_ivB (M' := m_Sk_goAlone) (As := [.int v6, .int v7]) k_Sk_seek rfl rfl rfl rfl rfl rfl rfl (Nat.le_of_ble_eq_true rfl) (c_sp_Sk_goAlone  hy7) (fun hby7 => ?_)
          refine ck_j k_Sk_seek rfl rfl ?_
          refine ck_p (L' := [some (.ref a), some (va_rf v1), some (va_rf v2), some (.int v3), some (.int v4), some (.int v5), some (.int v6), some (.int v7), some (.int y7.1)]) (st' := []) k_Sk_seek rfl rfl ?_
          refine ck_p (L' := [some (.ref a), some (va_rf v1), some (va_rf v2), some (.int v3), some (.int v4), some (.int v5), some (.int v6), some (.int v7), some (.int y7.1)]) (st' := [.int y7.1]) k_Sk_seek rfl rfl ?_
          refine ck_if k_Sk_seek rfl rfl rfl (fun h8 => ?_) (fun h8 => ?_)
          · skip
            rw [if_neg (show ¬ (y7.1 = 0) from h8)] at hp
            refine ck_p (L' := [some (.ref a), some (va_rf v1), some (va_rf v2), some (.int v3), some (.int v4), some (.int v5), some (.int v6), some (.int v7), some (.int y7.1)]) (st' := [.int y7.1]) k_Sk_seek rfl rfl ?_
            refine ck_p (L' := [some (.ref a), some (va_rf v1), some (va_rf v2), some (.int v3), some (.int v4), some (.int v5), some (.int v6), some (.int v7), some (.int y7.1)]) (st' := [.int 1, .int y7.1]) k_Sk_seek rfl rfl ?_
            refine ck_ic k_Sk_seek rfl rfl rfl (fun h9 => ?_) (fun h9 => ?_)
            · skip
              rw [if_neg (show ¬ (y7.1 = 1) from h9)] at hp
              refine ck_p (L' := [some (.ref a), some (va_rf v1), some (va_rf v2), some (.int v3), some (.int v4), some (.int v5), some (.int v6), some (.int (v7 + 1)), some (.int y7.1)]) (st' := []) k_Sk_seek rfl rfl ?_
              refine ck_j k_Sk_seek rfl rfl ?_
              exact ihm _ _ _ _ _ _ _ _ hp _
            · skip
              rw [if_pos (show y7.1 = 1 from h9)] at hp
              refine ck_p (L' := [some (.ref a), some (va_rf v1), some (va_rf v2), some (.int v3), some (.int v4), some (.int v5), some (.int v6), some (.int v7), some (.int y7.1)]) (st' := [.ref a]) k_Sk_seek rfl rfl ?_
              cases hy10 : sp_Sk_isNew   y7.2 with
              | none =>
                rw [hy10] at hp
                cases hp
              | some y10 =>
                rw [hy10] at hp
                try dsimp only at hp
                refine ck_ivB (M' := m_Sk_isNew) (As := []) k_Sk_seek rfl rfl rfl rfl rfl rfl rfl (Nat.le_of_ble_eq_true rfl) (c_sp_Sk_isNew  hy10) (fun hby10 => ?_)
                refine ck_if k_Sk_seek rfl rfl rfl (fun h11 => ?_) (fun h11 => ?_)
                · skip
                  rw [if_pos (show y10.1 = 0 from h11)] at hp
                  refine ck_p (L' := [some (.ref a), some (va_rf v1), some (va_rf v2), some (.int v3), some (.int v4), some (.int v5), some (.int v6), some (.int (v7 + 1)), some (.int y7.1)]) (st' := []) k_Sk_seek rfl rfl ?_
                  refine ck_j k_Sk_seek rfl rfl ?_
                  exact ihm _ _ _ _ _ _ _ _ hp _
                · skip
                  rw [if_neg (show ¬ (y10.1 = 0) from h11)] at hp
                  refine ck_p (L' := [some (.ref a), some (va_rf v1), some (va_rf v2), some (.int v3), some (.int v4), some (.int v5), some (.int v6), some (.int v7), some (.int y7.1)]) (st' := [.ref a]) k_Sk_seek rfl rfl ?_
                  refine ck_g k_Sk_seek rfl rfl rfl rfl ?_
                  refine ck_p (L' := [some (.ref a), some (va_rf v1), some (va_rf v2), some (.int v3), some (.int v4), some (.int v5), some (.int v6), some (.int v7), some (.int y7.1)]) (st' := [.int v4, .int (y10.2.1 6)]) k_Sk_seek rfl rfl ?_
                  refine ck_ic k_Sk_seek rfl rfl rfl (fun h12 => ?_) (fun h12 => ?_)
                  · skip
                    rw [if_pos (show v4 ≤ (y10.2.1 6) from h12)] at hp
                    refine ck_p (L' := [some (.ref a), some (va_rf v1), some (va_rf v2), some (.int v3), some (.int v4), some (.int v5), some (.int v6), some (.int v7), some (.int y7.1)]) (st' := [.int 2]) k_Sk_seek rfl rfl ?_
                    cases hp
                    exact ck_ret (v := some (.int _)) k_Sk_seek rfl rfl trivial rfl ⟨rfl, rfl⟩
                  · skip
                    rw [if_neg (show ¬ (v4 ≤ (y10.2.1 6)) from h12)] at hp
                    refine ck_p (L' := [some (.ref a), some (va_rf v1), some (va_rf v2), some (.int v3), some (.int v4), some (.int v5), some (.int v6), some (.int v7), some (.int y7.1)]) (st' := [.ref a]) k_Sk_seek rfl rfl ?_
                    refine ck_g k_Sk_seek rfl rfl rfl rfl ?_
                    refine ck_p (L' := [some (.ref a), some (va_rf v1), some (va_rf v2), some (.int v3), some (.int v4), some (.int v5), some (.int v6), some (.int v7), some (.int y7.1)]) (st' := [.int 300, .int (y10.2.1 6)]) k_Sk_seek rfl rfl ?_
                    refine ck_ic k_Sk_seek rfl rfl rfl (fun h13 => ?_) (fun h13 => ?_)
                    · skip
                      rw [if_pos (show (y10.2.1 6) < 300 from h13)] at hp
                      refine ck_p (L' := [some (.ref a), some (va_rf v1), some (va_rf v2), some (.int v3), some (.int v4), some (.int v5), some (.int v6), some (.int v7), some (.int y7.1)]) (st' := [.ref a]) k_Sk_seek rfl rfl ?_
                      refine ck_p (L' := [some (.ref a), some (va_rf v1), some (va_rf v2), some (.int v3), some (.int v4), some (.int v5), some (.int v6), some (.int v7), some (.int y7.1)]) (st' := [.int v6, .ref a]) k_Sk_seek rfl rfl ?_
                      refine ck_p (L' := [some (.ref a), some (va_rf v1), some (va_rf v2), some (.int v3), some (.int v4), some (.int v5), some (.int v6), some (.int v7), some (.int y7.1)]) (st' := [.int v7, .int v6, .ref a]) k_Sk_seek rfl rfl ?_
                      cases hy14 : sp_Sk_keepState  v6 v7 y10.2 with
                      | none =>
                        rw [hy14] at hp
                        cases hp
                      | some y14 =>
                        rw [hy14] at hp
                        try dsimp only at hp
                        refine ck_ivV (M' := m_Sk_keepState) (As := [.int v6, .int v7]) k_Sk_seek rfl rfl rfl rfl rfl rfl rfl (Nat.le_of_ble_eq_true rfl) (c_sp_Sk_keepState  hy14) ?_
                        refine ck_p (L' := [some (.ref a), some (va_rf v1), some (va_rf v2), some (.int v3), some (.int v4), some (.int v5), some (.int v6), some (.int (v7 + 1)), some (.int y7.1)]) (st' := []) k_Sk_seek rfl rfl ?_
                        refine ck_j k_Sk_seek rfl rfl ?_
                        exact ihm _ _ _ _ _ _ _ _ hp _
                    · skip
                      rw [if_neg (show ¬ ((y10.2.1 6) < 300) from h13)] at hp
                      refine ck_p (L' := [some (.ref a), some (va_rf v1), some (va_rf v2), some (.int v3), some (.int v4), some (.int v5), some (.int v6), some (.int v7), some (.int y7.1)]) (st' := [.int 2]) k_Sk_seek rfl rfl ?_
                      cases hp
                      exact ck_ret (v := some (.int _)) k_Sk_seek rfl rfl trivial rfl ⟨rfl, rfl⟩
          · skip
            rw [if_pos (show y7.1 = 0 from h8)] at hp
            refine ck_p (L' := [some (.ref a), some (va_rf v1), some (va_rf v2), some (.int v3), some (.int v4), some (.int v5), some (.int v6), some (.int v7), some (.int y7.1)]) (st' := [.ref a]) k_Sk_seek rfl rfl ?_
            refine ck_p (L' := [some (.ref a), some (va_rf v1), some (va_rf v2), some (.int v3), some (.int v4), some (.int v5), some (.int v6), some (.int v7), some (.int y7.1)]) (st' := [.int v6, .ref a]) k_Sk_seek rfl rfl ?_
            refine ck_p (L' := [some (.ref a), some (va_rf v1), some (va_rf v2), some (.int v3), some (.int v4), some (.int v5), some (.int v6), some (.int v7), some (.int y7.1)]) (st' := [.int v7, .int v6, .ref a]) k_Sk_seek rfl rfl ?_
            cases hy15 : sp_Sk_keepRun  v6 v7 y7.2 with
            | none =>
              rw [hy15] at hp
              cases hp
            | some y15 =>
              rw [hy15] at hp
              try dsimp only at hp
              refine ck_ivV (M' := m_Sk_keepRun) (As := [.int v6, .int v7]) k_Sk_seek rfl rfl rfl rfl rfl rfl rfl (Nat.le_of_ble_eq_true rfl) (c_sp_Sk_keepRun  hy15) ?_
              refine ck_p (L' := [some (.ref a), some (va_rf v1), some (va_rf v2), some (.int v3), some (.int v4), some (.int v5), some (.int v6), some (.int v7), some (.int y7.1)]) (st' := [.int 1]) k_Sk_seek rfl rfl ?_
              cases hp
              exact ck_ret (v := some (.int _)) k_Sk_seek rfl rfl trivial rfl ⟨rfl, rfl⟩
      | some b6 =>
        rw [hb6] at hp
        try dsimp only at hp
        refine ck_j k_Sk_seek rfl rfl ?_
        refine ck_p (L' := [some (.ref a), some (va_rf v1), some (va_rf v2), some (.int v3), some (.int v4), some (.int v5), some (.int v6), some (.int v7), x8]) (st' := [.ref a]) k_Sk_seek rfl rfl ?_
        refine ck_p (L' := [some (.ref a), some (va_rf v1), some (va_rf v2), some (.int v3), some (.int v4), some (.int v5), some (.int v6), some (.int v7), x8]) (st' := [.int v6, .ref a]) k_Sk_seek rfl rfl ?_
        refine ck_p (L' := [some (.ref a), some (va_rf v1), some (va_rf v2), some (.int v3), some (.int v4), some (.int v5), some (.int v6), some (.int v7), x8]) (st' := [.int v7, .int v6, .ref a]) k_Sk_seek rfl rfl ?_
        cases hy16 : sp_Sk_goBoth  v6 v7 σ with
        | none =>
          rw [hy16] at hp
          cases hp
        | some y16 =>
          rw [hy16] at hp
          try dsimp only at hp
          refine ck_ivB (M' := m_Sk_goBoth) (As := [.int v6, .int v7]) k_Sk_seek rfl rfl rfl rfl rfl rfl rfl (Nat.le_of_ble_eq_true rfl) (c_sp_Sk_goBoth  hy16) (fun hby16 => ?_)
          refine ck_p (L' := [some (.ref a), some (va_rf v1), some (va_rf v2), some (.int v3), some (.int v4), some (.int v5), some (.int v6), some (.int v7), some (.int y16.1)]) (st' := []) k_Sk_seek rfl rfl ?_
          refine ck_p (L' := [some (.ref a), some (va_rf v1), some (va_rf v2), some (.int v3), some (.int v4), some (.int v5), some (.int v6), some (.int v7), some (.int y16.1)]) (st' := [.int y16.1]) k_Sk_seek rfl rfl ?_
          refine ck_if k_Sk_seek rfl rfl rfl (fun h17 => ?_) (fun h17 => ?_)
          · skip
            rw [if_neg (show ¬ (y16.1 = 0) from h17)] at hp
            refine ck_p (L' := [some (.ref a), some (va_rf v1), some (va_rf v2), some (.int v3), some (.int v4), some (.int v5), some (.int v6), some (.int v7), some (.int y16.1)]) (st' := [.int y16.1]) k_Sk_seek rfl rfl ?_
            refine ck_p (L' := [some (.ref a), some (va_rf v1), some (va_rf v2), some (.int v3), some (.int v4), some (.int v5), some (.int v6), some (.int v7), some (.int y16.1)]) (st' := [.int 1, .int y16.1]) k_Sk_seek rfl rfl ?_
            refine ck_ic k_Sk_seek rfl rfl rfl (fun h18 => ?_) (fun h18 => ?_)
            · skip
              rw [if_neg (show ¬ (y16.1 = 1) from h18)] at hp
              refine ck_p (L' := [some (.ref a), some (va_rf v1), some (va_rf v2), some (.int v3), some (.int v4), some (.int v5), some (.int v6), some (.int (v7 + 1)), some (.int y16.1)]) (st' := []) k_Sk_seek rfl rfl ?_
              refine ck_j k_Sk_seek rfl rfl ?_
              exact ihm _ _ _ _ _ _ _ _ hp _
            · skip
              rw [if_pos (show y16.1 = 1 from h18)] at hp
              refine ck_p (L' := [some (.ref a), some (va_rf v1), some (va_rf v2), some (.int v3), some (.int v4), some (.int v5), some (.int v6), some (.int v7), some (.int y16.1)]) (st' := [.ref a]) k_Sk_seek rfl rfl ?_
              cases hy19 : sp_Sk_isNew   y16.2 with
              | none =>
                rw [hy19] at hp
                cases hp
              | some y19 =>
                rw [hy19] at hp
                try dsimp only at hp
                refine ck_ivB (M' := m_Sk_isNew) (As := []) k_Sk_seek rfl rfl rfl rfl rfl rfl rfl (Nat.le_of_ble_eq_true rfl) (c_sp_Sk_isNew  hy19) (fun hby19 => ?_)
                refine ck_if k_Sk_seek rfl rfl rfl (fun h20 => ?_) (fun h20 => ?_)
                · skip
                  rw [if_pos (show y19.1 = 0 from h20)] at hp
                  refine ck_p (L' := [some (.ref a), some (va_rf v1), some (va_rf v2), some (.int v3), some (.int v4), some (.int v5), some (.int v6), some (.int (v7 + 1)), some (.int y16.1)]) (st' := []) k_Sk_seek rfl rfl ?_
                  refine ck_j k_Sk_seek rfl rfl ?_
                  exact ihm _ _ _ _ _ _ _ _ hp _
                · skip
                  rw [if_neg (show ¬ (y19.1 = 0) from h20)] at hp
                  refine ck_p (L' := [some (.ref a), some (va_rf v1), some (va_rf v2), some (.int v3), some (.int v4), some (.int v5), some (.int v6), some (.int v7), some (.int y16.1)]) (st' := [.ref a]) k_Sk_seek rfl rfl ?_
                  refine ck_g k_Sk_seek rfl rfl rfl rfl ?_
                  refine ck_p (L' := [some (.ref a), some (va_rf v1), some (va_rf v2), some (.int v3), some (.int v4), some (.int v5), some (.int v6), some (.int v7), some (.int y16.1)]) (st' := [.int v4, .int (y19.2.1 6)]) k_Sk_seek rfl rfl ?_
                  refine ck_ic k_Sk_seek rfl rfl rfl (fun h21 => ?_) (fun h21 => ?_)
                  · skip
                    rw [if_pos (show v4 ≤ (y19.2.1 6) from h21)] at hp
                    refine ck_p (L' := [some (.ref a), some (va_rf v1), some (va_rf v2), some (.int v3), some (.int v4), some (.int v5), some (.int v6), some (.int v7), some (.int y16.1)]) (st' := [.int 2]) k_Sk_seek rfl rfl ?_
                    cases hp
                    exact ck_ret (v := some (.int _)) k_Sk_seek rfl rfl trivial rfl ⟨rfl, rfl⟩
                  · skip
                    rw [if_neg (show ¬ (v4 ≤ (y19.2.1 6)) from h21)] at hp
                    refine ck_p (L' := [some (.ref a), some (va_rf v1), some (va_rf v2), some (.int v3), some (.int v4), some (.int v5), some (.int v6), some (.int v7), some (.int y16.1)]) (st' := [.ref a]) k_Sk_seek rfl rfl ?_
                    refine ck_g k_Sk_seek rfl rfl rfl rfl ?_
                    refine ck_p (L' := [some (.ref a), some (va_rf v1), some (va_rf v2), some (.int v3), some (.int v4), some (.int v5), some (.int v6), some (.int v7), some (.int y16.1)]) (st' := [.int 300, .int (y19.2.1 6)]) k_Sk_seek rfl rfl ?_
                    refine ck_ic k_Sk_seek rfl rfl rfl (fun h22 => ?_) (fun h22 => ?_)
                    · skip
                      rw [if_pos (show (y19.2.1 6) < 300 from h22)] at hp
                      refine ck_p (L' := [some (.ref a), some (va_rf v1), some (va_rf v2), some (.int v3), some (.int v4), some (.int v5), some (.int v6), some (.int v7), some (.int y16.1)]) (st' := [.ref a]) k_Sk_seek rfl rfl ?_
                      refine ck_p (L' := [some (.ref a), some (va_rf v1), some (va_rf v2), some (.int v3), some (.int v4), some (.int v5), some (.int v6), some (.int v7), some (.int y16.1)]) (st' := [.int v6, .ref a]) k_Sk_seek rfl rfl ?_
                      refine ck_p (L' := [some (.ref a), some (va_rf v1), some (va_rf v2), some (.int v3), some (.int v4), some (.int v5), some (.int v6), some (.int v7), some (.int y16.1)]) (st' := [.int v7, .int v6, .ref a]) k_Sk_seek rfl rfl ?_
                      cases hy23 : sp_Sk_keepState  v6 v7 y19.2 with
                      | none =>
                        rw [hy23] at hp
                        cases hp
                      | some y23 =>
                        rw [hy23] at hp
                        try dsimp only at hp
                        refine ck_ivV (M' := m_Sk_keepState) (As := [.int v6, .int v7]) k_Sk_seek rfl rfl rfl rfl rfl rfl rfl (Nat.le_of_ble_eq_true rfl) (c_sp_Sk_keepState  hy23) ?_
                        refine ck_p (L' := [some (.ref a), some (va_rf v1), some (va_rf v2), some (.int v3), some (.int v4), some (.int v5), some (.int v6), some (.int (v7 + 1)), some (.int y16.1)]) (st' := []) k_Sk_seek rfl rfl ?_
                        refine ck_j k_Sk_seek rfl rfl ?_
                        exact ihm _ _ _ _ _ _ _ _ hp _
                    · skip
                      rw [if_neg (show ¬ ((y19.2.1 6) < 300) from h22)] at hp
                      refine ck_p (L' := [some (.ref a), some (va_rf v1), some (va_rf v2), some (.int v3), some (.int v4), some (.int v5), some (.int v6), some (.int v7), some (.int y16.1)]) (st' := [.int 2]) k_Sk_seek rfl rfl ?_
                      cases hp
                      exact ck_ret (v := some (.int _)) k_Sk_seek rfl rfl trivial rfl ⟨rfl, rfl⟩
          · skip
            rw [if_pos (show y16.1 = 0 from h17)] at hp
            refine ck_p (L' := [some (.ref a), some (va_rf v1), some (va_rf v2), some (.int v3), some (.int v4), some (.int v5), some (.int v6), some (.int v7), some (.int y16.1)]) (st' := [.ref a]) k_Sk_seek rfl rfl ?_
            refine ck_p (L' := [some (.ref a), some (va_rf v1), some (va_rf v2), some (.int v3), some (.int v4), some (.int v5), some (.int v6), some (.int v7), some (.int y16.1)]) (st' := [.int v6, .ref a]) k_Sk_seek rfl rfl ?_
            refine ck_p (L' := [some (.ref a), some (va_rf v1), some (va_rf v2), some (.int v3), some (.int v4), some (.int v5), some (.int v6), some (.int v7), some (.int y16.1)]) (st' := [.int v7, .int v6, .ref a]) k_Sk_seek rfl rfl ?_
            cases hy24 : sp_Sk_keepRun  v6 v7 y16.2 with
            | none =>
              rw [hy24] at hp
              cases hp
            | some y24 =>
              rw [hy24] at hp
              try dsimp only at hp
              refine ck_ivV (M' := m_Sk_keepRun) (As := [.int v6, .int v7]) k_Sk_seek rfl rfl rfl rfl rfl rfl rfl (Nat.le_of_ble_eq_true rfl) (c_sp_Sk_keepRun  hy24) ?_
              refine ck_p (L' := [some (.ref a), some (va_rf v1), some (va_rf v2), some (.int v3), some (.int v4), some (.int v5), some (.int v6), some (.int v7), some (.int y16.1)]) (st' := [.int 1]) k_Sk_seek rfl rfl ?_
              cases hp
              exact ck_ret (v := some (.int _)) k_Sk_seek rfl rfl trivial rfl ⟨rfl, rfl⟩
def sp_Sk_seek_57   : Nat → Option Nat → Option Nat → Int32 → Int32 → Int32 → Int32 → ck_S → Option (Int32 × ck_S)
  | 0, _, _, _, _, _, _, _ => none
  | m + 1, v1, v2, v3, v4, v5, v6, σ => (if (σ.1 6) ≤ v6 then some (0, σ) else (if (300 : Int32) ≤ v6 then some (0, σ) else sp_Sk_seek_77  (sp_Sk_seek_57    m) 2601 v1 v2 v3 v4 v5 v6 0 σ))
theorem c_sp_Sk_seek_57  {r : Int32 × ck_S} : ∀ (m : Nat) (v1 : Option Nat) (v2 : Option Nat) (v3 : Int32) (v4 : Int32) (v5 : Int32) (v6 : Int32) (σ : ck_S), sp_Sk_seek_57   m v1 v2 v3 v4 v5 v6 σ = some r → ∀ x7 x8 : Option Value, ck_Go l F (d + 1204) m_Sk_seek sk_K a A 57 ([some (.ref a), some (va_rf v1), some (va_rf v2), some (.int v3), some (.int v4), some (.int v5), some (.int v6), x7, x8]) [] σ (fun w σ' => w = some (.int r.1) ∧ σ' = r.2) := by
  intro m
  induction m with
  | zero => intro v1 v2 v3 v4 v5 v6 σ hp; cases hp
  | succ m ihm =>
    intro v1 v2 v3 v4 v5 v6 σ hp x7 x8
    unfold sp_Sk_seek_57 at hp
    refine ck_p (L' := [some (.ref a), some (va_rf v1), some (va_rf v2), some (.int v3), some (.int v4), some (.int v5), some (.int v6), x7, x8]) (st' := [.int v6]) k_Sk_seek rfl rfl ?_
    refine ck_p (L' := [some (.ref a), some (va_rf v1), some (va_rf v2), some (.int v3), some (.int v4), some (.int v5), some (.int v6), x7, x8]) (st' := [.ref a, .int v6]) k_Sk_seek rfl rfl ?_
    refine ck_g k_Sk_seek rfl rfl rfl rfl ?_
    refine ck_ic k_Sk_seek rfl rfl rfl (fun h3 => ?_) (fun h3 => ?_)
    · skip
      rw [if_pos (show (σ.1 6) ≤ v6 from h3)] at hp
      refine ck_p (L' := [some (.ref a), some (va_rf v1), some (va_rf v2), some (.int v3), some (.int v4), some (.int v5), some (.int v6), x7, x8]) (st' := [.int 0]) k_Sk_seek rfl rfl ?_
      cases hp
      exact ck_ret (v := some (.int _)) k_Sk_seek rfl rfl trivial rfl ⟨rfl, rfl⟩
    · skip
      rw [if_neg (show ¬ ((σ.1 6) ≤ v6) from h3)] at hp
      refine ck_p (L' := [some (.ref a), some (va_rf v1), some (va_rf v2), some (.int v3), some (.int v4), some (.int v5), some (.int v6), x7, x8]) (st' := [.int v6]) k_Sk_seek rfl rfl ?_
      refine ck_p (L' := [some (.ref a), some (va_rf v1), some (va_rf v2), some (.int v3), some (.int v4), some (.int v5), some (.int v6), x7, x8]) (st' := [.int 300, .int v6]) k_Sk_seek rfl rfl ?_
      refine ck_ic k_Sk_seek rfl rfl rfl (fun h4 => ?_) (fun h4 => ?_)
      · skip
        rw [if_pos (show (300 : Int32) ≤ v6 from h4)] at hp
        refine ck_p (L' := [some (.ref a), some (va_rf v1), some (va_rf v2), some (.int v3), some (.int v4), some (.int v5), some (.int v6), x7, x8]) (st' := [.int 0]) k_Sk_seek rfl rfl ?_
        cases hp
        exact ck_ret (v := some (.int _)) k_Sk_seek rfl rfl trivial rfl ⟨rfl, rfl⟩
      · skip
        rw [if_neg (show ¬ ((300 : Int32) ≤ v6) from h4)] at hp
        refine ck_p (L' := [some (.ref a), some (va_rf v1), some (va_rf v2), some (.int v3), some (.int v4), some (.int v5), some (.int v6), x7, x8]) (st' := [.int 0]) k_Sk_seek rfl rfl ?_
        refine ck_p (L' := [some (.ref a), some (va_rf v1), some (va_rf v2), some (.int v3), some (.int v4), some (.int v5), some (.int v6), some (.int 0), x8]) (st' := []) k_Sk_seek rfl rfl ?_
        exact c_sp_Sk_seek_77  (fun _ _ _ _ _ _ _ h => ihm _ _ _ _ _ _ _ h) _ _ _ _ _ _ _ _ _ hp _
def sp_Sk_seek  (v1 : Option Nat) (v2 : Option Nat) (v3 : Int32) (v4 : Int32) (σ : ck_S) : Option (Int32 × ck_S) := (match v1 with
  | none => none
  | some b1 => (match egI σ.2.2.2.1 b1 3 1 with
  | none => none
  | some y2 => sp_Sk_seek_57   2601 (some b1) v2 v3 v4 ((1 : Int32) <<< (y2 &&& 31)) 0 ((upd (upd (upd (upd σ.1 11 v3) 8 1) 7 0) 6 1), (gm_up (gm_up σ.2.1 1 (upd (σ.2.1 1) (0 : Int32).toNatClampNeg (-2))) 2 (upd (σ.2.1 2) (0 : Int32).toNatClampNeg (-2))), (updR (updR σ.2.2.1 9 v1) 10 v2), σ.2.2.2.1, σ.2.2.2.2.1, σ.2.2.2.2.2)))
theorem c_sp_Sk_seek  {v1 : Option Nat} {v2 : Option Nat} {v3 : Int32} {v4 : Int32} {σ : ck_S} {r : Int32 × ck_S} (hp : sp_Sk_seek  v1 v2 v3 v4 σ = some r) : ck_Has l F (d + 1204) m_Sk_seek sk_K a A [.ref a, va_rf v1, va_rf v2, .int v3, .int v4] σ (fun w σ' => w = some (.int r.1) ∧ σ' = r.2) := by
  refine ck_meth (k := 4) (L := [some (.ref a), some (va_rf v1), some (va_rf v2), some (.int v3), some (.int v4), none, none, none, none]) pn_Sk (by cases v1 <;> cases v2 <;> rfl) (by cases v1 <;> cases v2 <;> exact (Nat.le_of_ble_eq_true rfl)) ?_
  unfold sp_Sk_seek at hp
  refine ck_p (L' := [some (.ref a), some (va_rf v1), some (va_rf v2), some (.int v3), some (.int v4), none, none, none, none]) (st' := [.ref a]) k_Sk_seek rfl rfl ?_
  refine ck_p (L' := [some (.ref a), some (va_rf v1), some (va_rf v2), some (.int v3), some (.int v4), none, none, none, none]) (st' := [va_rf v1, .ref a]) k_Sk_seek rfl (by cases v1 <;> rfl) ?_
  refine ck_pr (x := v1) k_Sk_seek rfl rfl rfl (Nat.le_of_ble_eq_true rfl) rfl ?_
  refine ck_p (L' := [some (.ref a), some (va_rf v1), some (va_rf v2), some (.int v3), some (.int v4), none, none, none, none]) (st' := [.ref a]) k_Sk_seek rfl rfl ?_
  refine ck_p (L' := [some (.ref a), some (va_rf v1), some (va_rf v2), some (.int v3), some (.int v4), none, none, none, none]) (st' := [va_rf v2, .ref a]) k_Sk_seek rfl (by cases v2 <;> rfl) ?_
  refine ck_pr (x := v2) k_Sk_seek rfl rfl rfl (Nat.le_of_ble_eq_true rfl) rfl ?_
  refine ck_p (L' := [some (.ref a), some (va_rf v1), some (va_rf v2), some (.int v3), some (.int v4), none, none, none, none]) (st' := [.ref a]) k_Sk_seek rfl rfl ?_
  refine ck_p (L' := [some (.ref a), some (va_rf v1), some (va_rf v2), some (.int v3), some (.int v4), none, none, none, none]) (st' := [.int v3, .ref a]) k_Sk_seek rfl rfl ?_
  refine ck_pt k_Sk_seek rfl rfl rfl trivial (Nat.le_of_ble_eq_true rfl) rfl ?_
  refine ck_p (L' := [some (.ref a), some (va_rf v1), some (va_rf v2), some (.int v3), some (.int v4), none, none, none, none]) (st' := [.int 1]) k_Sk_seek rfl rfl ?_
  refine ck_p (L' := [some (.ref a), some (va_rf v1), some (va_rf v2), some (.int v3), some (.int v4), none, none, none, none]) (st' := [va_rf v1, .int 1]) k_Sk_seek rfl (by cases v1 <;> rfl) ?_
  cases v1 with
  | none =>
    try dsimp only at hp
    cases hp
  | some b1 =>
    try dsimp only at hp
    cases hy2 : egI σ.2.2.2.1 b1 3 1 with
    | none =>
      rw [hy2] at hp
      cases hp
    | some y2 =>
      rw [hy2] at hp
      try dsimp only at hp
      refine ck_gE k_Sk_seek rfl rfl rfl (egI_of hy2) ?_
      refine ck_p (L' := [some (.ref a), some (.ref b1), some (va_rf v2), some (.int v3), some (.int v4), none, none, none, none]) (st' := [.int ((1 : Int32) <<< (y2 &&& 31))]) k_Sk_seek rfl rfl ?_
      refine ck_p (L' := [some (.ref a), some (.ref b1), some (va_rf v2), some (.int v3), some (.int v4), some (.int ((1 : Int32) <<< (y2 &&& 31))), none, none, none]) (st' := []) k_Sk_seek rfl rfl ?_
      refine ck_p (L' := [some (.ref a), some (.ref b1), some (va_rf v2), some (.int v3), some (.int v4), some (.int ((1 : Int32) <<< (y2 &&& 31))), none, none, none]) (st' := [.ref a]) k_Sk_seek rfl rfl ?_
      refine ck_p (L' := [some (.ref a), some (.ref b1), some (va_rf v2), some (.int v3), some (.int v4), some (.int ((1 : Int32) <<< (y2 &&& 31))), none, none, none]) (st' := [.int 1, .ref a]) k_Sk_seek rfl rfl ?_
      refine ck_pt k_Sk_seek rfl rfl rfl (Or.inr rfl) (Nat.le_of_ble_eq_true rfl) rfl ?_
      refine ck_p (L' := [some (.ref a), some (.ref b1), some (va_rf v2), some (.int v3), some (.int v4), some (.int ((1 : Int32) <<< (y2 &&& 31))), none, none, none]) (st' := [.ref a]) k_Sk_seek rfl rfl ?_
      refine ck_p (L' := [some (.ref a), some (.ref b1), some (va_rf v2), some (.int v3), some (.int v4), some (.int ((1 : Int32) <<< (y2 &&& 31))), none, none, none]) (st' := [.int 0, .ref a]) k_Sk_seek rfl rfl ?_
      refine ck_pt k_Sk_seek rfl rfl rfl trivial (Nat.le_of_ble_eq_true rfl) rfl ?_
      refine ck_p (L' := [some (.ref a), some (.ref b1), some (va_rf v2), some (.int v3), some (.int v4), some (.int ((1 : Int32) <<< (y2 &&& 31))), none, none, none]) (st' := [.ref a]) k_Sk_seek rfl rfl ?_
      refine ck_p (L' := [some (.ref a), some (.ref b1), some (va_rf v2), some (.int v3), some (.int v4), some (.int ((1 : Int32) <<< (y2 &&& 31))), none, none, none]) (st' := [.int 1, .ref a]) k_Sk_seek rfl rfl ?_
      refine ck_pt k_Sk_seek rfl rfl rfl trivial (Nat.le_of_ble_eq_true rfl) rfl ?_
      refine ck_p (L' := [some (.ref a), some (.ref b1), some (va_rf v2), some (.int v3), some (.int v4), some (.int ((1 : Int32) <<< (y2 &&& 31))), none, none, none]) (st' := [.ref a]) k_Sk_seek rfl rfl ?_
      refine ck_g k_Sk_seek rfl rfl rfl rfl ?_
      refine ck_p (L' := [some (.ref a), some (.ref b1), some (va_rf v2), some (.int v3), some (.int v4), some (.int ((1 : Int32) <<< (y2 &&& 31))), none, none, none]) (st' := [.int 0, .ref (A 1)]) k_Sk_seek rfl rfl ?_
      refine ck_p (L' := [some (.ref a), some (.ref b1), some (va_rf v2), some (.int v3), some (.int v4), some (.int ((1 : Int32) <<< (y2 &&& 31))), none, none, none]) (st' := [.int (-2), .int 0, .ref (A 1)]) k_Sk_seek rfl rfl ?_
      refine ck_sto k_Sk_seek rfl rfl rfl (gi_in rfl) (by decide) ?_
      refine ck_p (L' := [some (.ref a), some (.ref b1), some (va_rf v2), some (.int v3), some (.int v4), some (.int ((1 : Int32) <<< (y2 &&& 31))), none, none, none]) (st' := [.ref a]) k_Sk_seek rfl rfl ?_
      refine ck_g k_Sk_seek rfl rfl rfl rfl ?_
      refine ck_p (L' := [some (.ref a), some (.ref b1), some (va_rf v2), some (.int v3), some (.int v4), some (.int ((1 : Int32) <<< (y2 &&& 31))), none, none, none]) (st' := [.int 0, .ref (A 2)]) k_Sk_seek rfl rfl ?_
      refine ck_p (L' := [some (.ref a), some (.ref b1), some (va_rf v2), some (.int v3), some (.int v4), some (.int ((1 : Int32) <<< (y2 &&& 31))), none, none, none]) (st' := [.int (-2), .int 0, .ref (A 2)]) k_Sk_seek rfl rfl ?_
      refine ck_sto k_Sk_seek rfl rfl rfl (gi_in rfl) (by decide) ?_
      refine ck_p (L' := [some (.ref a), some (.ref b1), some (va_rf v2), some (.int v3), some (.int v4), some (.int ((1 : Int32) <<< (y2 &&& 31))), none, none, none]) (st' := [.int 0]) k_Sk_seek rfl rfl ?_
      refine ck_p (L' := [some (.ref a), some (.ref b1), some (va_rf v2), some (.int v3), some (.int v4), some (.int ((1 : Int32) <<< (y2 &&& 31))), some (.int 0), none, none]) (st' := []) k_Sk_seek rfl rfl ?_
      exact c_sp_Sk_seek_57   _ _ _ _ _ _ _ _ hp _ _
end SK1
