def in_r (E : ck_E) (t : Nat) : Nat → Int32 := fun k => match E t with
  | some (.inr (_, fs)) => (match fs[k]? with
    | some (.int x) => x
    | _ => 0)
  | _ => 0
def in_k (E : ck_E) (t : Nat) : Nat → Option Nat := fun k => match E t with
  | some (.inr (_, fs)) => (match fs[k]? with
    | some (.ref x) => some x
    | _ => none)
  | _ => none
def in_B (E : ck_E) (t : Nat) : Nat → Nat := fun k => (in_k E t k).getD 0
def in_t (E : ck_E) (t : Nat) : Nat → Nat → Int32 := fun k => match E (in_B E t k) with
  | some (.inl (_, _, .inl f)) => f
  | _ => fun _ => 0
/-- a method of an object among the other cells -/
noncomputable def sp_in {α : Type} (K2 : ck_K) (t : Nat) (g : ck_S → Option (α × ck_S)) (σ : ck_S) : Option (α × ck_S) := @ite _ (ck_In K2 t (in_B σ.2.2.2.1 t) (in_r σ.2.2.2.1 t) (in_t σ.2.2.2.1 t) (in_k σ.2.2.2.1 t) σ.2.2.2.1) (Classical.propDecidable _) (match g (in_r σ.2.2.2.1 t, in_t σ.2.2.2.1 t, in_k σ.2.2.2.1 t, edel σ.2.2.2.1 K2 t (in_B σ.2.2.2.1 t), σ.2.2.2.2) with
  | none => none
  | some r => some (r.1, (σ.1, σ.2.1, σ.2.2.1, eput K2 t (in_B σ.2.2.2.1 t) r.2, r.2.2.2.2.2))) none
noncomputable def sp_inV (K2 : ck_K) (t : Nat) (g : ck_S → Option ck_S) (σ : ck_S) : Option ck_S := @ite _ (ck_In K2 t (in_B σ.2.2.2.1 t) (in_r σ.2.2.2.1 t) (in_t σ.2.2.2.1 t) (in_k σ.2.2.2.1 t) σ.2.2.2.1) (Classical.propDecidable _) (match g (in_r σ.2.2.2.1 t, in_t σ.2.2.2.1 t, in_k σ.2.2.2.1 t, edel σ.2.2.2.1 K2 t (in_B σ.2.2.2.1 t), σ.2.2.2.2) with
  | none => none
  | some r => some (σ.1, σ.2.1, σ.2.2.1, eput K2 t (in_B σ.2.2.2.1 t) r, r.2.2.2.2)) none
section HS0
variable {l : Launch} {F : gx_F} {d : Nat} {M M' : gx_M} {K K2 : ck_K} {a t : Nat} {A : Nat → Nat} {σ : ck_S} {pc : Nat} {L : List (Option Value)} {st : List Value} {P : Option Value → ck_S → Prop}
theorem c_in {α : Type} {g : ck_S → Option (α × ck_S)} {mk : α → Value} {As : List Value} {r : α × ck_S} (hp : sp_in K2 t g σ = some r) (hg : ∀ (B : Nat → Nat) (σ0 : ck_S) (r0 : α × ck_S), g σ0 = some r0 → ck_Has l F d M K2 t B As σ0 (fun w σ' => w = some (mk r0.1) ∧ σ' = r0.2)) : ck_Has l F d M K a A As σ (fun w σ' => w = some (mk r.1) ∧ σ' = r.2) := by
  unfold sp_in at hp
  split at hp
  · next hI =>
    split at hp
    · cases hp
    · next q hq =>
      cases hp
      exact ck_br hI (hg _ _ _ hq)
  · cases hp
theorem c_inV {g : ck_S → Option ck_S} {As : List Value} {r : ck_S} (hp : sp_inV K2 t g σ = some r) (hg : ∀ (B : Nat → Nat) (σ0 r0 : ck_S), g σ0 = some r0 → ck_Has l F d M K2 t B As σ0 (fun w σ' => w = none ∧ σ' = r0)) : ck_Has l F d M K a A As σ (fun w σ' => w = none ∧ σ' = r) := by
  unfold sp_inV at hp
  split at hp
  · next hI =>
    split at hp
    · cases hp
    · next q hq =>
      cases hp
      exact ck_br hI (hg _ _ _ hq)
  · cases hp
theorem ck_ivOV {i : gx_I} {idx b ci : Nat} {As rest : List Value} {r : vw_C} {σ1 : ck_S} (hM : gx_ok M) (ha : gx_at M.2 pc = some i) (hi : i.1 = .invokevirtual idx) (hy : i.2.2.2.2.2.2.2 = M'.1) (hn : As.length = M'.1.2.2.2.2) (hs : st = As.reverse ++ .ref b :: rest) (ho : eo σ.2.2.2.1 b ci = true) (hcr : gx_cl[ci]? = some r) (hcn : M'.1.1.cls = r.1) (hw : (rest.map fun v => v.category).sum ≤ 8)
    (hm : ck_Has l F d M' K a A (.ref b :: As) σ (fun v σ' => v = none ∧ σ' = σ1)) (kk : ck_Go l F (d + 1) M K a A i.2.2.2.2.1 L rest σ1 P) : ck_Go l F (d + 1) M K a A pc L st σ P := by
  obtain ⟨fs, hb⟩ := eo_of ho
  refine ck_ivE hM ha hi hy hn hs hb hcr hcn hw hm fun v σ' hv hq => ?_
  obtain ⟨rfl, rfl⟩ := hq
  exact kk
end HS0
def h_fs (_ : Nat → Nat) (r : Nat → Int32) (k : Nat → Option Nat) : List Value := [va_rf (k 0), va_rf (k 1), va_rf (k 2), va_rf (k 3), va_rf (k 4), .int (r 5), .int (r 6), .int (r 7), .int (r 8)]
def h_K : ck_K := (0, h_fs, fun _ => 0, fun _ => 0)
section HS1
variable {l : Launch} {F : gx_F} {d : Nat} {K : ck_K} {a : Nat} {A : Nat → Nat}
theorem sw_H_total {x : Int32} (h0 : ¬ x = 0) (h1 : ¬ x = 1) (h2 : ¬ x = 2) : x.toInt < 0 ∨ 2 < x.toInt := by
  simp only [← Int32.toInt_inj] at h0 h1 h2
  have e0 : (0 : Int32).toInt = 0 := rfl
  have e1 : (1 : Int32).toInt = 1 := rfl
  have e2 : (2 : Int32).toInt = 2 := rfl
  omega
theorem sw_H_fault {x : Int32} (h0 : ¬ x = 0) (h1 : ¬ x = 1) : Op.lookupswitch.offset [(0, 27), (1, 32)] 37 x.toInt = 37 := by
  rw [Op.lookupswitch.offset_cons, if_neg (sw_nx (z := 0) h0 rfl), Op.lookupswitch.offset_cons, if_neg (sw_nx (z := 1) h1 rfl), Op.lookupswitch.offset_nil]
def ns_IH (l : Launch) (F : gx_F) (K : ck_K) (a : Nat) (A : Nat → Nat) (D : Nat) (f : Nat → Int32 → ck_S → Option (Int32 × ck_S)) : Prop := ∀ (dd : Nat) (n : Nat) (b : Int32) (σ : ck_S) (r : Int32 × ck_S), D ≤ dd → f n b σ = some r → ck_Has l F dd m_Node_canStandAt K a A [.ref n, .int b] σ (fun w σ' => w = some (.int r.1) ∧ σ' = r.2)
variable {D : Nat} {f : Nat → Int32 → ck_S → Option (Int32 × ck_S)}
def sp_Node_canStandAt_31 (f : Nat → Int32 → ck_S → Option (Int32 × ck_S)) (v0 : Nat)  : Nat → Int32 → Int32 → Int32 → Option Nat → ck_S → Option (Int32 × ck_S)
  | 0, _, _, _, _, _ => none
  | m + 1, v1, v2, v3, v4, σ => (match v4 with
  | none => some (1, σ)
  | some b4 => (if eo σ.2.2.2.1 b4 2 = true then (match sp_Node_standsIn  b4 v1 σ with
  | none => none
  | some y6 => (if y6.1 = 0 then (match egR y6.2.2.2.2.1 b4 2 5 with
  | none => none
  | some y8 => sp_Node_canStandAt_31 f v0   m v1 v2 v3 y8 y6.2) else (if v2 = 0 then (if eo y6.2.2.2.2.1 b4 2 = true then (match f b4 v1 y6.2 with
  | none => none
  | some y11 => (if y11.1 = 0 then some (0, y11.2) else (match egR y11.2.2.2.2.1 b4 2 5 with
  | none => none
  | some y13 => sp_Node_canStandAt_31 f v0   m v1 v2 1 y13 y11.2))) else none) else (if v3 = 0 then (if eo y6.2.2.2.2.1 b4 2 = true then (match f b4 v1 y6.2 with
  | none => none
  | some y16 => (if y16.1 = 0 then some (0, y16.2) else (match egR y16.2.2.2.2.1 b4 2 5 with
  | none => none
  | some y18 => sp_Node_canStandAt_31 f v0   m v1 v2 1 y18 y16.2))) else none) else some (0, y6.2))))) else none))
theorem c_sp_Node_canStandAt_31 (hf : ns_IH l F K a A D f) (hD : D ≤ d) {v0 : Nat} {r : Int32 × ck_S} : ∀ (m : Nat) (v1 : Int32) (v2 : Int32) (v3 : Int32) (v4 : Option Nat) (σ : ck_S), sp_Node_canStandAt_31 f v0  m v1 v2 v3 v4 σ = some r → ck_Go l F (d + 1) m_Node_canStandAt K a A 31 ([some (.ref v0), some (.int v1), some (.int v2), some (.int v3), some (va_rf v4)]) [] σ (fun w σ' => w = some (.int r.1) ∧ σ' = r.2) := by
  intro m
  induction m with
  | zero => intro v1 v2 v3 v4 σ hp; cases hp
  | succ m ihm =>
    intro v1 v2 v3 v4 σ hp
    unfold sp_Node_canStandAt_31 at hp
    refine ck_p (L' := [some (.ref v0), some (.int v1), some (.int v2), some (.int v3), some (va_rf v4)]) (st' := [va_rf v4]) k_Node_canStandAt rfl (by cases v4 <;> rfl) ?_
    cases v4 with
    | none =>
      try dsimp only at hp
      refine ck_j k_Node_canStandAt rfl rfl ?_
      refine ck_p (L' := [some (.ref v0), some (.int v1), some (.int v2), some (.int v3), some (.null)]) (st' := [.int 1]) k_Node_canStandAt rfl rfl ?_
      cases hp
      exact ck_ret (v := some (.int _)) k_Node_canStandAt rfl rfl (Or.inr rfl) rfl ⟨rfl, rfl⟩
    | some b4 =>
      try dsimp only at hp
      refine ck_j k_Node_canStandAt rfl rfl ?_
      refine ck_p (L' := [some (.ref v0), some (.int v1), some (.int v2), some (.int v3), some (.ref b4)]) (st' := [.ref b4]) k_Node_canStandAt rfl rfl ?_
      refine ck_p (L' := [some (.ref v0), some (.int v1), some (.int v2), some (.int v3), some (.ref b4)]) (st' := [.int v1, .ref b4]) k_Node_canStandAt rfl rfl ?_
      by_cases g5 : eo σ.2.2.2.1 b4 2 = true
      · rw [if_pos g5] at hp
        cases hy6 : sp_Node_standsIn  b4 v1 σ with
        | none =>
          rw [hy6] at hp
          cases hp
        | some y6 =>
          rw [hy6] at hp
          try dsimp only at hp
          refine ck_ivO (M' := m_Node_standsIn) (As := [.int v1]) k_Node_canStandAt rfl rfl rfl rfl rfl g5 rfl rfl (Nat.le_of_ble_eq_true rfl) (c_sp_Node_standsIn  hy6) (fun hby6 => ?_)
          refine ck_if k_Node_canStandAt rfl rfl rfl (fun h7 => ?_) (fun h7 => ?_)
          · skip
            rw [if_pos (show y6.1 = 0 from h7)] at hp
            refine ck_p (L' := [some (.ref v0), some (.int v1), some (.int v2), some (.int v3), some (.ref b4)]) (st' := [.ref b4]) k_Node_canStandAt rfl rfl ?_
            cases hy8 : egR y6.2.2.2.2.1 b4 2 5 with
            | none =>
              rw [hy8] at hp
              cases hp
            | some y8 =>
              rw [hy8] at hp
              try dsimp only at hp
              refine ck_gE k_Node_canStandAt rfl rfl rfl (egR_of hy8) ?_
              refine ck_p (L' := [some (.ref v0), some (.int v1), some (.int v2), some (.int v3), some (va_rf y8)]) (st' := []) k_Node_canStandAt rfl (by cases y8 <;> rfl) ?_
              refine ck_j k_Node_canStandAt rfl rfl ?_
              exact ihm _ _ _ _ _ hp
          · skip
            rw [if_neg (show ¬ (y6.1 = 0) from h7)] at hp
            refine ck_p (L' := [some (.ref v0), some (.int v1), some (.int v2), some (.int v3), some (.ref b4)]) (st' := [.int v2]) k_Node_canStandAt rfl rfl ?_
            refine ck_if k_Node_canStandAt rfl rfl rfl (fun h9 => ?_) (fun h9 => ?_)
            · skip
              rw [if_pos (show v2 = 0 from h9)] at hp
              refine ck_p (L' := [some (.ref v0), some (.int v1), some (.int v2), some (.int v3), some (.ref b4)]) (st' := [.ref b4]) k_Node_canStandAt rfl rfl ?_
              refine ck_p (L' := [some (.ref v0), some (.int v1), some (.int v2), some (.int v3), some (.ref b4)]) (st' := [.int v1, .ref b4]) k_Node_canStandAt rfl rfl ?_
              by_cases g10 : eo y6.2.2.2.2.1 b4 2 = true
              · rw [if_pos g10] at hp
                cases hy11 : f b4 v1 y6.2 with
                | none =>
                  rw [hy11] at hp
                  cases hp
                | some y11 =>
                  rw [hy11] at hp
                  try dsimp only at hp
                  refine ck_ivO (M' := m_Node_canStandAt) (As := [.int v1]) k_Node_canStandAt rfl rfl rfl rfl rfl g10 rfl rfl (Nat.le_of_ble_eq_true rfl) (hf _ _ _ _ _ (by omega) hy11) (fun hby11 => ?_)
                  refine ck_if k_Node_canStandAt rfl rfl rfl (fun h12 => ?_) (fun h12 => ?_)
                  · skip
                    rw [if_neg (show ¬ (y11.1 = 0) from h12)] at hp
                    refine ck_p (L' := [some (.ref v0), some (.int v1), some (.int v2), some (.int v3), some (.ref b4)]) (st' := [.int 1]) k_Node_canStandAt rfl rfl ?_
                    refine ck_p (L' := [some (.ref v0), some (.int v1), some (.int v2), some (.int 1), some (.ref b4)]) (st' := []) k_Node_canStandAt rfl rfl ?_
                    refine ck_p (L' := [some (.ref v0), some (.int v1), some (.int v2), some (.int 1), some (.ref b4)]) (st' := [.ref b4]) k_Node_canStandAt rfl rfl ?_
                    cases hy13 : egR y11.2.2.2.2.1 b4 2 5 with
                    | none =>
                      rw [hy13] at hp
                      cases hp
                    | some y13 =>
                      rw [hy13] at hp
                      try dsimp only at hp
                      refine ck_gE k_Node_canStandAt rfl rfl rfl (egR_of hy13) ?_
                      refine ck_p (L' := [some (.ref v0), some (.int v1), some (.int v2), some (.int 1), some (va_rf y13)]) (st' := []) k_Node_canStandAt rfl (by cases y13 <;> rfl) ?_
                      refine ck_j k_Node_canStandAt rfl rfl ?_
                      exact ihm _ _ _ _ _ hp
                  · skip
                    rw [if_pos (show y11.1 = 0 from h12)] at hp
                    refine ck_p (L' := [some (.ref v0), some (.int v1), some (.int v2), some (.int v3), some (.ref b4)]) (st' := [.int 0]) k_Node_canStandAt rfl rfl ?_
                    cases hp
                    exact ck_ret (v := some (.int _)) k_Node_canStandAt rfl rfl (Or.inl rfl) rfl ⟨rfl, rfl⟩
              · rw [if_neg g10] at hp
                cases hp
            · skip
              rw [if_neg (show ¬ (v2 = 0) from h9)] at hp
              refine ck_p (L' := [some (.ref v0), some (.int v1), some (.int v2), some (.int v3), some (.ref b4)]) (st' := [.int v3]) k_Node_canStandAt rfl rfl ?_
              refine ck_if k_Node_canStandAt rfl rfl rfl (fun h14 => ?_) (fun h14 => ?_)
              · skip
                rw [if_neg (show ¬ (v3 = 0) from h14)] at hp
                refine ck_p (L' := [some (.ref v0), some (.int v1), some (.int v2), some (.int v3), some (.ref b4)]) (st' := [.int 0]) k_Node_canStandAt rfl rfl ?_
                cases hp
                exact ck_ret (v := some (.int _)) k_Node_canStandAt rfl rfl (Or.inl rfl) rfl ⟨rfl, rfl⟩
              · skip
                rw [if_pos (show v3 = 0 from h14)] at hp
                refine ck_p (L' := [some (.ref v0), some (.int v1), some (.int v2), some (.int v3), some (.ref b4)]) (st' := [.ref b4]) k_Node_canStandAt rfl rfl ?_
                refine ck_p (L' := [some (.ref v0), some (.int v1), some (.int v2), some (.int v3), some (.ref b4)]) (st' := [.int v1, .ref b4]) k_Node_canStandAt rfl rfl ?_
                by_cases g15 : eo y6.2.2.2.2.1 b4 2 = true
                · rw [if_pos g15] at hp
                  cases hy16 : f b4 v1 y6.2 with
                  | none =>
                    rw [hy16] at hp
                    cases hp
                  | some y16 =>
                    rw [hy16] at hp
                    try dsimp only at hp
                    refine ck_ivO (M' := m_Node_canStandAt) (As := [.int v1]) k_Node_canStandAt rfl rfl rfl rfl rfl g15 rfl rfl (Nat.le_of_ble_eq_true rfl) (hf _ _ _ _ _ (by omega) hy16) (fun hby16 => ?_)
                    refine ck_if k_Node_canStandAt rfl rfl rfl (fun h17 => ?_) (fun h17 => ?_)
                    · skip
                      rw [if_neg (show ¬ (y16.1 = 0) from h17)] at hp
                      refine ck_p (L' := [some (.ref v0), some (.int v1), some (.int v2), some (.int v3), some (.ref b4)]) (st' := [.int 1]) k_Node_canStandAt rfl rfl ?_
                      refine ck_p (L' := [some (.ref v0), some (.int v1), some (.int v2), some (.int 1), some (.ref b4)]) (st' := []) k_Node_canStandAt rfl rfl ?_
                      refine ck_p (L' := [some (.ref v0), some (.int v1), some (.int v2), some (.int 1), some (.ref b4)]) (st' := [.ref b4]) k_Node_canStandAt rfl rfl ?_
                      cases hy18 : egR y16.2.2.2.2.1 b4 2 5 with
                      | none =>
                        rw [hy18] at hp
                        cases hp
                      | some y18 =>
                        rw [hy18] at hp
                        try dsimp only at hp
                        refine ck_gE k_Node_canStandAt rfl rfl rfl (egR_of hy18) ?_
                        refine ck_p (L' := [some (.ref v0), some (.int v1), some (.int v2), some (.int 1), some (va_rf y18)]) (st' := []) k_Node_canStandAt rfl (by cases y18 <;> rfl) ?_
                        refine ck_j k_Node_canStandAt rfl rfl ?_
                        exact ihm _ _ _ _ _ hp
                    · skip
                      rw [if_pos (show y16.1 = 0 from h17)] at hp
                      refine ck_p (L' := [some (.ref v0), some (.int v1), some (.int v2), some (.int v3), some (.ref b4)]) (st' := [.int 0]) k_Node_canStandAt rfl rfl ?_
                      cases hp
                      exact ck_ret (v := some (.int _)) k_Node_canStandAt rfl rfl (Or.inl rfl) rfl ⟨rfl, rfl⟩
                · rw [if_neg g15] at hp
                  cases hp
      · rw [if_neg g5] at hp
        cases hp
def sp_Node_canStandAt (f : Nat → Int32 → ck_S → Option (Int32 × ck_S)) (v0 : Nat) (v1 : Int32) (σ : ck_S) : Option (Int32 × ck_S) := (match egI σ.2.2.2.1 v0 2 0 with
  | none => none
  | some y1 => (if y1 = 9 then (match egR σ.2.2.2.1 v0 2 2 with
  | none => none
  | some y3 => sp_Node_canStandAt_31 f v0  2601 v1 1 0 y3 σ) else (if y1 = 3 then (match egR σ.2.2.2.1 v0 2 2 with
  | none => none
  | some y22 => sp_Node_canStandAt_31 f v0  2601 v1 1 0 y22 σ) else (match egR σ.2.2.2.1 v0 2 2 with
  | none => none
  | some y21 => sp_Node_canStandAt_31 f v0  2601 v1 0 0 y21 σ))))
theorem c_sp_Node_canStandAt (hf : ns_IH l F K a A D f) (hD : D ≤ d) {v0 : Nat} {v1 : Int32} {σ : ck_S} {r : Int32 × ck_S} (hp : sp_Node_canStandAt f v0 v1 σ = some r) : ck_Has l F (d + 1) m_Node_canStandAt K a A [.ref v0, .int v1] σ (fun w σ' => w = some (.int r.1) ∧ σ' = r.2) := by
  refine ck_meth (k := 3) (L := [some (.ref v0), some (.int v1), none, none, none]) pn_Node rfl (Nat.le_of_ble_eq_true rfl) ?_
  unfold sp_Node_canStandAt at hp
  refine ck_p (L' := [some (.ref v0), some (.int v1), none, none, none]) (st' := [.ref v0]) k_Node_canStandAt rfl rfl ?_
  cases hy1 : egI σ.2.2.2.1 v0 2 0 with
  | none =>
    rw [hy1] at hp
    cases hp
  | some y1 =>
    rw [hy1] at hp
    try dsimp only at hp
    refine ck_gE k_Node_canStandAt rfl rfl rfl (egI_of hy1) ?_
    refine ck_p (L' := [some (.ref v0), some (.int v1), none, none, none]) (st' := [.int 9, .int y1]) k_Node_canStandAt rfl rfl ?_
    refine ck_ic k_Node_canStandAt rfl rfl rfl (fun h2 => ?_) (fun h2 => ?_)
    · skip
      rw [if_pos (show y1 = 9 from h2)] at hp
      refine ck_p (L' := [some (.ref v0), some (.int v1), none, none, none]) (st' := [.int 1]) k_Node_canStandAt rfl rfl ?_
      refine ck_j k_Node_canStandAt rfl rfl ?_
      refine ck_p (L' := [some (.ref v0), some (.int v1), some (.int 1), none, none]) (st' := []) k_Node_canStandAt rfl rfl ?_
      refine ck_p (L' := [some (.ref v0), some (.int v1), some (.int 1), none, none]) (st' := [.int 0]) k_Node_canStandAt rfl rfl ?_
      refine ck_p (L' := [some (.ref v0), some (.int v1), some (.int 1), some (.int 0), none]) (st' := []) k_Node_canStandAt rfl rfl ?_
      refine ck_p (L' := [some (.ref v0), some (.int v1), some (.int 1), some (.int 0), none]) (st' := [.ref v0]) k_Node_canStandAt rfl rfl ?_
      cases hy3 : egR σ.2.2.2.1 v0 2 2 with
      | none =>
        rw [hy3] at hp
        cases hp
      | some y3 =>
        rw [hy3] at hp
        try dsimp only at hp
        refine ck_gE k_Node_canStandAt rfl rfl rfl (egR_of hy3) ?_
        refine ck_p (L' := [some (.ref v0), some (.int v1), some (.int 1), some (.int 0), some (va_rf y3)]) (st' := []) k_Node_canStandAt rfl (by cases y3 <;> rfl) ?_
        exact c_sp_Node_canStandAt_31 hf (by omega)  _ _ _ _ _ _ hp
    · skip
      rw [if_neg (show ¬ (y1 = 9) from h2)] at hp
      refine ck_p (L' := [some (.ref v0), some (.int v1), none, none, none]) (st' := [.ref v0]) k_Node_canStandAt rfl rfl ?_
      refine ck_gE k_Node_canStandAt rfl rfl rfl (egI_of hy1) ?_
      refine ck_p (L' := [some (.ref v0), some (.int v1), none, none, none]) (st' := [.int 3, .int y1]) k_Node_canStandAt rfl rfl ?_
      refine ck_ic k_Node_canStandAt rfl rfl rfl (fun h20 => ?_) (fun h20 => ?_)
      · skip
        rw [if_neg (show ¬ (y1 = 3) from h20)] at hp
        refine ck_p (L' := [some (.ref v0), some (.int v1), none, none, none]) (st' := [.int 0]) k_Node_canStandAt rfl rfl ?_
        refine ck_p (L' := [some (.ref v0), some (.int v1), some (.int 0), none, none]) (st' := []) k_Node_canStandAt rfl rfl ?_
        refine ck_p (L' := [some (.ref v0), some (.int v1), some (.int 0), none, none]) (st' := [.int 0]) k_Node_canStandAt rfl rfl ?_
        refine ck_p (L' := [some (.ref v0), some (.int v1), some (.int 0), some (.int 0), none]) (st' := []) k_Node_canStandAt rfl rfl ?_
        refine ck_p (L' := [some (.ref v0), some (.int v1), some (.int 0), some (.int 0), none]) (st' := [.ref v0]) k_Node_canStandAt rfl rfl ?_
        cases hy21 : egR σ.2.2.2.1 v0 2 2 with
        | none =>
          rw [hy21] at hp
          cases hp
        | some y21 =>
          rw [hy21] at hp
          try dsimp only at hp
          refine ck_gE k_Node_canStandAt rfl rfl rfl (egR_of hy21) ?_
          refine ck_p (L' := [some (.ref v0), some (.int v1), some (.int 0), some (.int 0), some (va_rf y21)]) (st' := []) k_Node_canStandAt rfl (by cases y21 <;> rfl) ?_
          exact c_sp_Node_canStandAt_31 hf (by omega)  _ _ _ _ _ _ hp
      · skip
        rw [if_pos (show y1 = 3 from h20)] at hp
        refine ck_p (L' := [some (.ref v0), some (.int v1), none, none, none]) (st' := [.int 1]) k_Node_canStandAt rfl rfl ?_
        refine ck_j k_Node_canStandAt rfl rfl ?_
        refine ck_p (L' := [some (.ref v0), some (.int v1), some (.int 1), none, none]) (st' := []) k_Node_canStandAt rfl rfl ?_
        refine ck_p (L' := [some (.ref v0), some (.int v1), some (.int 1), none, none]) (st' := [.int 0]) k_Node_canStandAt rfl rfl ?_
        refine ck_p (L' := [some (.ref v0), some (.int v1), some (.int 1), some (.int 0), none]) (st' := []) k_Node_canStandAt rfl rfl ?_
        refine ck_p (L' := [some (.ref v0), some (.int v1), some (.int 1), some (.int 0), none]) (st' := [.ref v0]) k_Node_canStandAt rfl rfl ?_
        cases hy22 : egR σ.2.2.2.1 v0 2 2 with
        | none =>
          rw [hy22] at hp
          cases hp
        | some y22 =>
          rw [hy22] at hp
          try dsimp only at hp
          refine ck_gE k_Node_canStandAt rfl rfl rfl (egR_of hy22) ?_
          refine ck_p (L' := [some (.ref v0), some (.int v1), some (.int 1), some (.int 0), some (va_rf y22)]) (st' := []) k_Node_canStandAt rfl (by cases y22 <;> rfl) ?_
          exact c_sp_Node_canStandAt_31 hf (by omega)  _ _ _ _ _ _ hp
def nst : Nat → Nat → Int32 → ck_S → Option (Int32 × ck_S)
  | 0 => fun _ _ _ => none
  | n + 1 => fun v b σ => sp_Node_canStandAt (nst n) v b σ
theorem c_nst (n : Nat) : ns_IH l F K a A (1 * n) (nst n) := by
  induction n with
  | zero => exact fun _ _ _ _ _ _ h => nomatch h
  | succ n ih =>
    intro dd v b σ r hd h
    obtain ⟨d, rfl⟩ : ∃ d, dd = d + 1 := ⟨dd - 1, by omega⟩
    exact c_sp_Node_canStandAt ih (by omega) h
def sp_Prog_canStandAt  (v0 : Nat) (v1 : Int32) (σ : ck_S) : Option (Int32 × ck_S) := (if v1 = (-2) then some (1, σ) else (if v1 = (-3) then some (1, σ) else (if v1 = 0 then some (0, σ) else (match egR σ.2.2.2.1 v0 3 3 with
  | none => none
  | some y4 => (match y4 with
  | none => none
  | some b5 => (match egI σ.2.2.2.1 b5 2 3 with
  | none => none
  | some y6 => (if (v1 &&& (y6 ^^^ (-1))) = 0 then (if eo σ.2.2.2.1 b5 2 = true then (match nst 200 b5 v1 σ with
  | none => none
  | some y10 => (if y10.1 = 0 then some (0, y10.2) else some (1, y10.2))) else none) else some (0, σ))))))))
theorem c_sp_Prog_canStandAt  {v0 : Nat} {v1 : Int32} {σ : ck_S} {r : Int32 × ck_S} (hp : sp_Prog_canStandAt  v0 v1 σ = some r) : ck_Has l F (d + 201) m_Prog_canStandAt K a A [.ref v0, .int v1] σ (fun w σ' => w = some (.int r.1) ∧ σ' = r.2) := by
  refine ck_meth (k := 0) (L := [some (.ref v0), some (.int v1)]) pn_Prog rfl (Nat.le_of_ble_eq_true rfl) ?_
  unfold sp_Prog_canStandAt at hp
  refine ck_p (L' := [some (.ref v0), some (.int v1)]) (st' := [.int v1]) k_Prog_canStandAt rfl rfl ?_
  refine ck_p (L' := [some (.ref v0), some (.int v1)]) (st' := [.int (-2), .int v1]) k_Prog_canStandAt rfl rfl ?_
  refine ck_ic k_Prog_canStandAt rfl rfl rfl (fun h1 => ?_) (fun h1 => ?_)
  · skip
    rw [if_pos (show v1 = (-2) from h1)] at hp
    refine ck_p (L' := [some (.ref v0), some (.int v1)]) (st' := [.int 1]) k_Prog_canStandAt rfl rfl ?_
    cases hp
    exact ck_ret (v := some (.int _)) k_Prog_canStandAt rfl rfl (Or.inr rfl) rfl ⟨rfl, rfl⟩
  · skip
    rw [if_neg (show ¬ (v1 = (-2)) from h1)] at hp
    refine ck_p (L' := [some (.ref v0), some (.int v1)]) (st' := [.int v1]) k_Prog_canStandAt rfl rfl ?_
    refine ck_p (L' := [some (.ref v0), some (.int v1)]) (st' := [.int (-3), .int v1]) k_Prog_canStandAt rfl rfl ?_
    refine ck_ic k_Prog_canStandAt rfl rfl rfl (fun h2 => ?_) (fun h2 => ?_)
    · skip
      rw [if_neg (show ¬ (v1 = (-3)) from h2)] at hp
      refine ck_p (L' := [some (.ref v0), some (.int v1)]) (st' := [.int v1]) k_Prog_canStandAt rfl rfl ?_
      refine ck_if k_Prog_canStandAt rfl rfl rfl (fun h3 => ?_) (fun h3 => ?_)
      · skip
        rw [if_pos (show v1 = 0 from h3)] at hp
        refine ck_p (L' := [some (.ref v0), some (.int v1)]) (st' := [.int 0]) k_Prog_canStandAt rfl rfl ?_
        cases hp
        exact ck_ret (v := some (.int _)) k_Prog_canStandAt rfl rfl (Or.inl rfl) rfl ⟨rfl, rfl⟩
      · skip
        rw [if_neg (show ¬ (v1 = 0) from h3)] at hp
        refine ck_p (L' := [some (.ref v0), some (.int v1)]) (st' := [.int v1]) k_Prog_canStandAt rfl rfl ?_
        refine ck_p (L' := [some (.ref v0), some (.int v1)]) (st' := [.ref v0, .int v1]) k_Prog_canStandAt rfl rfl ?_
        cases hy4 : egR σ.2.2.2.1 v0 3 3 with
        | none =>
          rw [hy4] at hp
          cases hp
        | some y4 =>
          rw [hy4] at hp
          try dsimp only at hp
          refine ck_gE k_Prog_canStandAt rfl rfl rfl (egR_of hy4) ?_
          cases y4 with
          | none =>
            try dsimp only at hp
            cases hp
          | some b5 =>
            try dsimp only at hp
            cases hy6 : egI σ.2.2.2.1 b5 2 3 with
            | none =>
              rw [hy6] at hp
              cases hp
            | some y6 =>
              rw [hy6] at hp
              try dsimp only at hp
              refine ck_gE k_Prog_canStandAt rfl rfl rfl (egI_of hy6) ?_
              refine ck_p (L' := [some (.ref v0), some (.int v1)]) (st' := [.int (-1), .int y6, .int v1]) k_Prog_canStandAt rfl rfl ?_
              refine ck_p (L' := [some (.ref v0), some (.int v1)]) (st' := [.int (y6 ^^^ (-1)), .int v1]) k_Prog_canStandAt rfl rfl ?_
              refine ck_p (L' := [some (.ref v0), some (.int v1)]) (st' := [.int (v1 &&& (y6 ^^^ (-1)))]) k_Prog_canStandAt rfl rfl ?_
              refine ck_if k_Prog_canStandAt rfl rfl rfl (fun h7 => ?_) (fun h7 => ?_)
              · skip
                rw [if_neg (show ¬ ((v1 &&& (y6 ^^^ (-1))) = 0) from h7)] at hp
                refine ck_p (L' := [some (.ref v0), some (.int v1)]) (st' := [.int 0]) k_Prog_canStandAt rfl rfl ?_
                cases hp
                exact ck_ret (v := some (.int _)) k_Prog_canStandAt rfl rfl (Or.inl rfl) rfl ⟨rfl, rfl⟩
              · skip
                rw [if_pos (show (v1 &&& (y6 ^^^ (-1))) = 0 from h7)] at hp
                refine ck_p (L' := [some (.ref v0), some (.int v1)]) (st' := [.ref v0]) k_Prog_canStandAt rfl rfl ?_
                refine ck_gE k_Prog_canStandAt rfl rfl rfl (egR_of hy4) ?_
                refine ck_p (L' := [some (.ref v0), some (.int v1)]) (st' := [.int v1, .ref b5]) k_Prog_canStandAt rfl rfl ?_
                by_cases g9 : eo σ.2.2.2.1 b5 2 = true
                · rw [if_pos g9] at hp
                  cases hy10 : nst 200 b5 v1 σ with
                  | none =>
                    rw [hy10] at hp
                    cases hp
                  | some y10 =>
                    rw [hy10] at hp
                    try dsimp only at hp
                    refine ck_ivO (M' := m_Node_canStandAt) (As := [.int v1]) k_Prog_canStandAt rfl rfl rfl rfl rfl g9 rfl rfl (Nat.le_of_ble_eq_true rfl) (c_nst 200 _ _ _ _ _ (by omega) hy10) (fun hby10 => ?_)
                    refine ck_if k_Prog_canStandAt rfl rfl rfl (fun h11 => ?_) (fun h11 => ?_)
                    · skip
                      rw [if_pos (show y10.1 = 0 from h11)] at hp
                      refine ck_p (L' := [some (.ref v0), some (.int v1)]) (st' := [.int 0]) k_Prog_canStandAt rfl rfl ?_
                      cases hp
                      exact ck_ret (v := some (.int _)) k_Prog_canStandAt rfl rfl (Or.inl rfl) rfl ⟨rfl, rfl⟩
                    · skip
                      rw [if_neg (show ¬ (y10.1 = 0) from h11)] at hp
                      refine ck_p (L' := [some (.ref v0), some (.int v1)]) (st' := [.int 1]) k_Prog_canStandAt rfl rfl ?_
                      refine ck_j k_Prog_canStandAt rfl rfl ?_
                      cases hp
                      exact ck_ret (v := some (.int _)) k_Prog_canStandAt rfl rfl (Or.inr rfl) rfl ⟨rfl, rfl⟩
                · rw [if_neg g9] at hp
                  cases hp
    · skip
      rw [if_pos (show v1 = (-3) from h2)] at hp
      refine ck_p (L' := [some (.ref v0), some (.int v1)]) (st' := [.int 1]) k_Prog_canStandAt rfl rfl ?_
      cases hp
      exact ck_ret (v := some (.int _)) k_Prog_canStandAt rfl rfl (Or.inr rfl) rfl ⟨rfl, rfl⟩
def q_H_byteOf (v0 : Int64) (v2 : Int32) : Int32 := ((Int64.toInt32 (q_lush v0 (8 * v2))) &&& 255)
theorem c_q_H_byteOf {v0 : Int64} {v2 : Int32} {σ : ck_S} {r : Int32} (hp : q_H_byteOf v0 v2 = r) : ck_Has l F (d) m_H_byteOf h_K a A [.long v0, .int v2] σ (fun w σ' => w = some (.int r) ∧ σ' = σ) := by
  refine ck_meth (k := 0) (L := [some (.long v0), none, some (.int v2)]) pn_H rfl (Nat.le_of_ble_eq_true rfl) ?_
  unfold q_H_byteOf at hp
  refine ck_p (L' := [some (.long v0), none, some (.int v2)]) (st' := [.long v0]) k_H_byteOf rfl rfl ?_
  refine ck_p (L' := [some (.long v0), none, some (.int v2)]) (st' := [.int 8, .long v0]) k_H_byteOf rfl rfl ?_
  refine ck_p (L' := [some (.long v0), none, some (.int v2)]) (st' := [.int v2, .int 8, .long v0]) k_H_byteOf rfl rfl ?_
  refine ck_p (L' := [some (.long v0), none, some (.int v2)]) (st' := [.int (8 * v2), .long v0]) k_H_byteOf rfl rfl ?_
  refine ck_p (L' := [some (.long v0), none, some (.int v2)]) (st' := [.long (q_lush v0 (8 * v2))]) k_H_byteOf rfl rfl ?_
  refine ck_p (L' := [some (.long v0), none, some (.int v2)]) (st' := [.int (Int64.toInt32 (q_lush v0 (8 * v2)))]) k_H_byteOf rfl rfl ?_
  refine ck_p (L' := [some (.long v0), none, some (.int v2)]) (st' := [.int 255, .int (Int64.toInt32 (q_lush v0 (8 * v2)))]) k_H_byteOf rfl rfl ?_
  refine ck_p (L' := [some (.long v0), none, some (.int v2)]) (st' := [.int ((Int64.toInt32 (q_lush v0 (8 * v2))) &&& 255)]) k_H_byteOf rfl rfl ?_
  subst hp
  exact ck_ret (v := some (.int _)) k_H_byteOf rfl rfl trivial rfl ⟨rfl, rfl⟩
def q_H_isMost (v0 : Int32) : Int32 := (if v0 < 1 then 0 else (if (300 : Int32) < v0 then 0 else 1))
theorem c_q_H_isMost {v0 : Int32} {σ : ck_S} {r : Int32} (hp : q_H_isMost v0 = r) : ck_Has l F (d) m_H_isMost h_K a A [.int v0] σ (fun w σ' => w = some (.int r) ∧ σ' = σ) := by
  refine ck_meth (k := 0) (L := [some (.int v0)]) pn_H rfl (Nat.le_of_ble_eq_true rfl) ?_
  unfold q_H_isMost at hp
  refine ck_p (L' := [some (.int v0)]) (st' := [.int v0]) k_H_isMost rfl rfl ?_
  refine ck_p (L' := [some (.int v0)]) (st' := [.int 1, .int v0]) k_H_isMost rfl rfl ?_
  refine ck_ic k_H_isMost rfl rfl rfl (fun h1 => ?_) (fun h1 => ?_)
  · skip
    rw [if_pos (show v0 < 1 from h1)] at hp
    refine ck_p (L' := [some (.int v0)]) (st' := [.int 0]) k_H_isMost rfl rfl ?_
    subst hp
    exact ck_ret (v := some (.int _)) k_H_isMost rfl rfl (Or.inl rfl) rfl ⟨rfl, rfl⟩
  · skip
    rw [if_neg (show ¬ (v0 < 1) from h1)] at hp
    refine ck_p (L' := [some (.int v0)]) (st' := [.int v0]) k_H_isMost rfl rfl ?_
    refine ck_p (L' := [some (.int v0)]) (st' := [.int 300, .int v0]) k_H_isMost rfl rfl ?_
    refine ck_ic k_H_isMost rfl rfl rfl (fun h2 => ?_) (fun h2 => ?_)
    · skip
      rw [if_pos (show (300 : Int32) < v0 from h2)] at hp
      refine ck_p (L' := [some (.int v0)]) (st' := [.int 0]) k_H_isMost rfl rfl ?_
      subst hp
      exact ck_ret (v := some (.int _)) k_H_isMost rfl rfl (Or.inl rfl) rfl ⟨rfl, rfl⟩
    · skip
      rw [if_neg (show ¬ ((300 : Int32) < v0) from h2)] at hp
      refine ck_p (L' := [some (.int v0)]) (st' := [.int 1]) k_H_isMost rfl rfl ?_
      refine ck_j k_H_isMost rfl rfl ?_
      subst hp
      exact ck_ret (v := some (.int _)) k_H_isMost rfl rfl (Or.inr rfl) rfl ⟨rfl, rfl⟩
noncomputable def sp_H_type_68   : Nat → Int64 → Int32 → Int32 → ck_S → Option (Int32 × ck_S)
  | 0, _, _, _, _ => none
  | m + 1, v1, v3, v4, σ => (if v4 < 0 then some (1, σ) else (match (σ.2.2.1 0) with
  | none => none
  | some b9 => (if eo σ.2.2.2.1 b9 4 = true then (match sp_inV rd_K b9 (sp_Rd_append  (q_i2c (q_H_byteOf v1 v4))) σ with
  | none => none
  | some y11 => sp_H_type_68    m v1 v3 (v4 + (-1)) y11) else none)))
theorem c_sp_H_type_68  {r : Int32 × ck_S} : ∀ (m : Nat) (v1 : Int64) (v3 : Int32) (v4 : Int32) (σ : ck_S), sp_H_type_68   m v1 v3 v4 σ = some r → ∀ x5 : Option Value, ck_Go l F (d + 1) m_H_type h_K a A 68 ([some (.ref a), some (.long v1), none, some (.int v3), some (.int v4), x5]) [] σ (fun w σ' => w = some (.int r.1) ∧ σ' = r.2) := by
  intro m
  induction m with
  | zero => intro v1 v3 v4 σ hp; cases hp
  | succ m ihm =>
    intro v1 v3 v4 σ hp x5
    unfold sp_H_type_68 at hp
    refine ck_p (L' := [some (.ref a), some (.long v1), none, some (.int v3), some (.int v4), x5]) (st' := [.int v4]) k_H_type rfl rfl ?_
    refine ck_if k_H_type rfl rfl rfl (fun h8 => ?_) (fun h8 => ?_)
    · skip
      rw [if_pos (show v4 < 0 from h8)] at hp
      refine ck_p (L' := [some (.ref a), some (.long v1), none, some (.int v3), some (.int v4), x5]) (st' := [.int 1]) k_H_type rfl rfl ?_
      cases hp
      exact ck_ret (v := some (.int _)) k_H_type rfl rfl (Or.inr rfl) rfl ⟨rfl, rfl⟩
    · skip
      rw [if_neg (show ¬ (v4 < 0) from h8)] at hp
      refine ck_p (L' := [some (.ref a), some (.long v1), none, some (.int v3), some (.int v4), x5]) (st' := [.ref a]) k_H_type rfl rfl ?_
      refine ck_g k_H_type rfl rfl rfl rfl ?_
      refine ck_p (L' := [some (.ref a), some (.long v1), none, some (.int v3), some (.int v4), x5]) (st' := [.long v1, va_rf (σ.2.2.1 0)]) k_H_type rfl rfl ?_
      refine ck_p (L' := [some (.ref a), some (.long v1), none, some (.int v3), some (.int v4), x5]) (st' := [.int v4, .long v1, va_rf (σ.2.2.1 0)]) k_H_type rfl rfl ?_
      refine ck_isB (M' := m_H_byteOf) (As := [.long v1, .int v4]) k_H_type rfl rfl rfl rfl rfl rfl (by cases (σ.2.2.1 0) <;> exact (Nat.le_of_ble_eq_true rfl)) (c_q_H_byteOf rfl) (fun _ => ?_)
      refine ck_p (L' := [some (.ref a), some (.long v1), none, some (.int v3), some (.int v4), x5]) (st' := [.int (q_i2c (q_H_byteOf v1 v4)), va_rf (σ.2.2.1 0)]) k_H_type rfl rfl ?_
      cases hb9 : (σ.2.2.1 0) with
      | none =>
        rw [hb9] at hp
        try dsimp only at hp
        cases hp
      | some b9 =>
        rw [hb9] at hp
        try dsimp only at hp
        by_cases g10 : eo σ.2.2.2.1 b9 4 = true
        · rw [if_pos g10] at hp
          cases hy11 : sp_inV rd_K b9 (sp_Rd_append  (q_i2c (q_H_byteOf v1 v4))) σ with
          | none =>
            rw [hy11] at hp
            cases hp
          | some y11 =>
            rw [hy11] at hp
            try dsimp only at hp
            refine ck_ivOV (M' := m_Rd_append) (As := [.int (q_i2c (q_H_byteOf v1 v4))]) k_H_type rfl rfl rfl rfl rfl g10 rfl rfl (Nat.le_of_ble_eq_true rfl) (c_inV hy11 (fun _ _ _ h => c_sp_Rd_append h)) ?_
            refine ck_p (L' := [some (.ref a), some (.long v1), none, some (.int v3), some (.int (v4 + (-1))), x5]) (st' := []) k_H_type rfl rfl ?_
            refine ck_j k_H_type rfl rfl ?_
            exact ihm _ _ _ _ hp _
        · rw [if_neg g10] at hp
          cases hp
noncomputable def sp_H_type_27   : Nat → Int64 → Int32 → Int32 → ck_S → Option (Int32 × ck_S)
  | 0, _, _, _, _ => none
  | m + 1, v1, v3, v4, σ => (if v3 ≤ v4 then sp_H_type_68   2601 v1 v3 (v3 - 1) σ else (if (q_H_byteOf v1 v4) < 33 then some (0, σ) else (if (q_H_byteOf v1 v4) ≤ 126 then sp_H_type_27    m v1 v3 (v4 + 1) σ else some (0, σ))))
theorem c_sp_H_type_27  {r : Int32 × ck_S} : ∀ (m : Nat) (v1 : Int64) (v3 : Int32) (v4 : Int32) (σ : ck_S), sp_H_type_27   m v1 v3 v4 σ = some r → ∀ x5 : Option Value, ck_Go l F (d + 1) m_H_type h_K a A 27 ([some (.ref a), some (.long v1), none, some (.int v3), some (.int v4), x5]) [] σ (fun w σ' => w = some (.int r.1) ∧ σ' = r.2) := by
  intro m
  induction m with
  | zero => intro v1 v3 v4 σ hp; cases hp
  | succ m ihm =>
    intro v1 v3 v4 σ hp x5
    unfold sp_H_type_27 at hp
    refine ck_p (L' := [some (.ref a), some (.long v1), none, some (.int v3), some (.int v4), x5]) (st' := [.int v4]) k_H_type rfl rfl ?_
    refine ck_p (L' := [some (.ref a), some (.long v1), none, some (.int v3), some (.int v4), x5]) (st' := [.int v3, .int v4]) k_H_type rfl rfl ?_
    refine ck_ic k_H_type rfl rfl rfl (fun h7 => ?_) (fun h7 => ?_)
    · skip
      rw [if_pos (show v3 ≤ v4 from h7)] at hp
      refine ck_p (L' := [some (.ref a), some (.long v1), none, some (.int v3), some (.int v4), x5]) (st' := [.int v3]) k_H_type rfl rfl ?_
      refine ck_p (L' := [some (.ref a), some (.long v1), none, some (.int v3), some (.int v4), x5]) (st' := [.int 1, .int v3]) k_H_type rfl rfl ?_
      refine ck_p (L' := [some (.ref a), some (.long v1), none, some (.int v3), some (.int v4), x5]) (st' := [.int (v3 - 1)]) k_H_type rfl rfl ?_
      refine ck_p (L' := [some (.ref a), some (.long v1), none, some (.int v3), some (.int (v3 - 1)), x5]) (st' := []) k_H_type rfl rfl ?_
      exact c_sp_H_type_68   _ _ _ _ _ hp _
    · skip
      rw [if_neg (show ¬ (v3 ≤ v4) from h7)] at hp
      refine ck_p (L' := [some (.ref a), some (.long v1), none, some (.int v3), some (.int v4), x5]) (st' := [.long v1]) k_H_type rfl rfl ?_
      refine ck_p (L' := [some (.ref a), some (.long v1), none, some (.int v3), some (.int v4), x5]) (st' := [.int v4, .long v1]) k_H_type rfl rfl ?_
      refine ck_isB (M' := m_H_byteOf) (As := [.long v1, .int v4]) k_H_type rfl rfl rfl rfl rfl rfl (Nat.le_of_ble_eq_true rfl) (c_q_H_byteOf rfl) (fun _ => ?_)
      refine ck_p (L' := [some (.ref a), some (.long v1), none, some (.int v3), some (.int v4), some (.int (q_H_byteOf v1 v4))]) (st' := []) k_H_type rfl rfl ?_
      refine ck_p (L' := [some (.ref a), some (.long v1), none, some (.int v3), some (.int v4), some (.int (q_H_byteOf v1 v4))]) (st' := [.int (q_H_byteOf v1 v4)]) k_H_type rfl rfl ?_
      refine ck_p (L' := [some (.ref a), some (.long v1), none, some (.int v3), some (.int v4), some (.int (q_H_byteOf v1 v4))]) (st' := [.int 33, .int (q_H_byteOf v1 v4)]) k_H_type rfl rfl ?_
      refine ck_ic k_H_type rfl rfl rfl (fun h12 => ?_) (fun h12 => ?_)
      · skip
        rw [if_pos (show (q_H_byteOf v1 v4) < 33 from h12)] at hp
        refine ck_p (L' := [some (.ref a), some (.long v1), none, some (.int v3), some (.int v4), some (.int (q_H_byteOf v1 v4))]) (st' := [.int 0]) k_H_type rfl rfl ?_
        cases hp
        exact ck_ret (v := some (.int _)) k_H_type rfl rfl (Or.inl rfl) rfl ⟨rfl, rfl⟩
      · skip
        rw [if_neg (show ¬ ((q_H_byteOf v1 v4) < 33) from h12)] at hp
        refine ck_p (L' := [some (.ref a), some (.long v1), none, some (.int v3), some (.int v4), some (.int (q_H_byteOf v1 v4))]) (st' := [.int (q_H_byteOf v1 v4)]) k_H_type rfl rfl ?_
        refine ck_p (L' := [some (.ref a), some (.long v1), none, some (.int v3), some (.int v4), some (.int (q_H_byteOf v1 v4))]) (st' := [.int 126, .int (q_H_byteOf v1 v4)]) k_H_type rfl rfl ?_
        refine ck_ic k_H_type rfl rfl rfl (fun h13 => ?_) (fun h13 => ?_)
        · skip
          rw [if_pos (show (q_H_byteOf v1 v4) ≤ 126 from h13)] at hp
          refine ck_p (L' := [some (.ref a), some (.long v1), none, some (.int v3), some (.int (v4 + 1)), some (.int (q_H_byteOf v1 v4))]) (st' := []) k_H_type rfl rfl ?_
          refine ck_j k_H_type rfl rfl ?_
          exact ihm _ _ _ _ hp _
        · skip
          rw [if_neg (show ¬ ((q_H_byteOf v1 v4) ≤ 126) from h13)] at hp
          refine ck_p (L' := [some (.ref a), some (.long v1), none, some (.int v3), some (.int v4), some (.int (q_H_byteOf v1 v4))]) (st' := [.int 0]) k_H_type rfl rfl ?_
          cases hp
          exact ck_ret (v := some (.int _)) k_H_type rfl rfl (Or.inl rfl) rfl ⟨rfl, rfl⟩
noncomputable def sp_H_type  (v1 : Int64) (v3 : Int32) (σ : ck_S) : Option (Int32 × ck_S) := (if v3 < 1 then some (0, σ) else (if (8 : Int32) < v3 then some (0, σ) else (match (σ.2.2.1 0) with
  | none => none
  | some b3 => (if eo σ.2.2.2.1 b3 4 = true then (match sp_in rd_K b3 (sp_Rd_hasRoomFor  v3) σ with
  | none => none
  | some y5 => (if y5.1 = 0 then some (0, y5.2) else sp_H_type_27   2601 v1 v3 0 y5.2)) else none))))
theorem c_sp_H_type  {v1 : Int64} {v3 : Int32} {σ : ck_S} {r : Int32 × ck_S} (hp : sp_H_type  v1 v3 σ = some r) : ck_Has l F (d + 1) m_H_type h_K a A [.ref a, .long v1, .int v3] σ (fun w σ' => w = some (.int r.1) ∧ σ' = r.2) := by
  refine ck_meth (k := 2) (L := [some (.ref a), some (.long v1), none, some (.int v3), none, none]) pn_H rfl (Nat.le_of_ble_eq_true rfl) ?_
  unfold sp_H_type at hp
  refine ck_p (L' := [some (.ref a), some (.long v1), none, some (.int v3), none, none]) (st' := [.int v3]) k_H_type rfl rfl ?_
  refine ck_p (L' := [some (.ref a), some (.long v1), none, some (.int v3), none, none]) (st' := [.int 1, .int v3]) k_H_type rfl rfl ?_
  refine ck_ic k_H_type rfl rfl rfl (fun h1 => ?_) (fun h1 => ?_)
  · skip
    rw [if_pos (show v3 < 1 from h1)] at hp
    refine ck_p (L' := [some (.ref a), some (.long v1), none, some (.int v3), none, none]) (st' := [.int 0]) k_H_type rfl rfl ?_
    cases hp
    exact ck_ret (v := some (.int _)) k_H_type rfl rfl (Or.inl rfl) rfl ⟨rfl, rfl⟩
  · skip
    rw [if_neg (show ¬ (v3 < 1) from h1)] at hp
    refine ck_p (L' := [some (.ref a), some (.long v1), none, some (.int v3), none, none]) (st' := [.int v3]) k_H_type rfl rfl ?_
    refine ck_p (L' := [some (.ref a), some (.long v1), none, some (.int v3), none, none]) (st' := [.int 8, .int v3]) k_H_type rfl rfl ?_
    refine ck_ic k_H_type rfl rfl rfl (fun h2 => ?_) (fun h2 => ?_)
    · skip
      rw [if_pos (show (8 : Int32) < v3 from h2)] at hp
      refine ck_p (L' := [some (.ref a), some (.long v1), none, some (.int v3), none, none]) (st' := [.int 0]) k_H_type rfl rfl ?_
      cases hp
      exact ck_ret (v := some (.int _)) k_H_type rfl rfl (Or.inl rfl) rfl ⟨rfl, rfl⟩
    · skip
      rw [if_neg (show ¬ ((8 : Int32) < v3) from h2)] at hp
      refine ck_p (L' := [some (.ref a), some (.long v1), none, some (.int v3), none, none]) (st' := [.ref a]) k_H_type rfl rfl ?_
      refine ck_g k_H_type rfl rfl rfl rfl ?_
      refine ck_p (L' := [some (.ref a), some (.long v1), none, some (.int v3), none, none]) (st' := [.int v3, va_rf (σ.2.2.1 0)]) k_H_type rfl rfl ?_
      cases hb3 : (σ.2.2.1 0) with
      | none =>
        rw [hb3] at hp
        try dsimp only at hp
        cases hp
      | some b3 =>
        rw [hb3] at hp
        try dsimp only at hp
        by_cases g4 : eo σ.2.2.2.1 b3 4 = true
        · rw [if_pos g4] at hp
          cases hy5 : sp_in rd_K b3 (sp_Rd_hasRoomFor  v3) σ with
          | none =>
            rw [hy5] at hp
            cases hp
          | some y5 =>
            rw [hy5] at hp
            try dsimp only at hp
            refine ck_ivO (M' := m_Rd_hasRoomFor) (As := [.int v3]) k_H_type rfl rfl rfl rfl rfl g4 rfl rfl (Nat.le_of_ble_eq_true rfl) (c_in (mk := fun x => .int x) hy5 (fun _ _ _ h => c_sp_Rd_hasRoomFor h)) (fun hby5 => ?_)
            refine ck_if k_H_type rfl rfl rfl (fun h6 => ?_) (fun h6 => ?_)
            · skip
              rw [if_neg (show ¬ (y5.1 = 0) from h6)] at hp
              refine ck_p (L' := [some (.ref a), some (.long v1), none, some (.int v3), none, none]) (st' := [.int 0]) k_H_type rfl rfl ?_
              refine ck_p (L' := [some (.ref a), some (.long v1), none, some (.int v3), some (.int 0), none]) (st' := []) k_H_type rfl rfl ?_
              exact c_sp_H_type_27   _ _ _ _ _ hp _
            · skip
              rw [if_pos (show y5.1 = 0 from h6)] at hp
              refine ck_p (L' := [some (.ref a), some (.long v1), none, some (.int v3), none, none]) (st' := [.int 0]) k_H_type rfl rfl ?_
              cases hp
              exact ck_ret (v := some (.int _)) k_H_type rfl rfl (Or.inl rfl) rfl ⟨rfl, rfl⟩
        · rw [if_neg g4] at hp
          cases hp
noncomputable def sp_H_fault  (v1 : Int32) (σ : ck_S) : Option (Int32 × ck_S) := (if v1 = 0 then some ((σ.1 7), σ) else (if v1 = 1 then some ((σ.1 8), σ) else some ((-1), σ)))
theorem c_sp_H_fault  {v1 : Int32} {σ : ck_S} {r : Int32 × ck_S} (hp : sp_H_fault  v1 σ = some r) : ck_Has l F (d) m_H_fault h_K a A [.ref a, .int v1] σ (fun w σ' => w = some (.int r.1) ∧ σ' = r.2) := by
  refine ck_meth (k := 0) (L := [some (.ref a), some (.int v1)]) pn_H rfl (Nat.le_of_ble_eq_true rfl) ?_
  unfold sp_H_fault at hp
  refine ck_p (L' := [some (.ref a), some (.int v1)]) (st' := [.int v1]) k_H_fault rfl rfl ?_
  by_cases h1 : v1 = 0
  · rw [if_pos h1] at hp
    refine ck_lJ (tgt := 28) k_H_fault rfl rfl (by decide) h1 rfl rfl ?_
    refine ck_p (L' := [some (.ref a), some (.int v1)]) (st' := [.ref a]) k_H_fault rfl rfl ?_
    refine ck_g k_H_fault rfl rfl rfl rfl ?_
    cases hp
    exact ck_ret (v := some (.int _)) k_H_fault rfl rfl trivial rfl ⟨rfl, rfl⟩
  · rw [if_neg h1] at hp
    by_cases h2 : v1 = 1
    · rw [if_pos h2] at hp
      refine ck_lJ (tgt := 33) k_H_fault rfl rfl (by decide) h2 rfl rfl ?_
      refine ck_p (L' := [some (.ref a), some (.int v1)]) (st' := [.ref a]) k_H_fault rfl rfl ?_
      refine ck_g k_H_fault rfl rfl rfl rfl ?_
      cases hp
      exact ck_ret (v := some (.int _)) k_H_fault rfl rfl trivial rfl ⟨rfl, rfl⟩
    · rw [if_neg h2] at hp
      refine ck_lO (tgt := 38) k_H_fault rfl rfl (by decide) (sw_H_fault h1 h2) rfl ?_
      refine ck_p (L' := [some (.ref a), some (.int v1)]) (st' := [.int (-1)]) k_H_fault rfl rfl ?_
      cases hp
      exact ck_ret (v := some (.int _)) k_H_fault rfl rfl trivial rfl ⟨rfl, rfl⟩
noncomputable def sp_H_programAt  (v1 : Int32) (σ : ck_S) : Option (Option Nat × ck_S) := (if v1 < 0 then some (none, σ) else (if (σ.1 5) ≤ v1 then some (none, σ) else (match (σ.2.2.1 3) with
  | none => none
  | some b3 => (match el σ.2.2.2.1 b3 4 with
  | none => none
  | some y4 => (if y4 ≤ v1 then some (none, σ) else (match er σ.2.2.2.1 b3 4 v1 with
  | none => none
  | some y6 => some (y6, σ)))))))
theorem c_sp_H_programAt  {v1 : Int32} {σ : ck_S} {r : Option Nat × ck_S} (hp : sp_H_programAt  v1 σ = some r) : ck_Has l F (d) m_H_programAt h_K a A [.ref a, .int v1] σ (fun w σ' => w = some (va_rf r.1) ∧ σ' = r.2) := by
  refine ck_meth (k := 0) (L := [some (.ref a), some (.int v1)]) pn_H rfl (Nat.le_of_ble_eq_true rfl) ?_
  unfold sp_H_programAt at hp
  refine ck_p (L' := [some (.ref a), some (.int v1)]) (st' := [.int v1]) k_H_programAt rfl rfl ?_
  refine ck_if k_H_programAt rfl rfl rfl (fun h1 => ?_) (fun h1 => ?_)
  · skip
    rw [if_pos (show v1 < 0 from h1)] at hp
    refine ck_p (L' := [some (.ref a), some (.int v1)]) (st' := [.null]) k_H_programAt rfl rfl ?_
    cases hp
    exact ck_ret (v := some (va_rf none)) k_H_programAt rfl rfl trivial rfl ⟨rfl, rfl⟩
  · skip
    rw [if_neg (show ¬ (v1 < 0) from h1)] at hp
    refine ck_p (L' := [some (.ref a), some (.int v1)]) (st' := [.int v1]) k_H_programAt rfl rfl ?_
    refine ck_p (L' := [some (.ref a), some (.int v1)]) (st' := [.ref a, .int v1]) k_H_programAt rfl rfl ?_
    refine ck_g k_H_programAt rfl rfl rfl rfl ?_
    refine ck_ic k_H_programAt rfl rfl rfl (fun h2 => ?_) (fun h2 => ?_)
    · skip
      rw [if_pos (show (σ.1 5) ≤ v1 from h2)] at hp
      refine ck_p (L' := [some (.ref a), some (.int v1)]) (st' := [.null]) k_H_programAt rfl rfl ?_
      cases hp
      exact ck_ret (v := some (va_rf none)) k_H_programAt rfl rfl trivial rfl ⟨rfl, rfl⟩
    · skip
      rw [if_neg (show ¬ ((σ.1 5) ≤ v1) from h2)] at hp
      refine ck_p (L' := [some (.ref a), some (.int v1)]) (st' := [.int v1]) k_H_programAt rfl rfl ?_
      refine ck_p (L' := [some (.ref a), some (.int v1)]) (st' := [.ref a, .int v1]) k_H_programAt rfl rfl ?_
      refine ck_g k_H_programAt rfl rfl rfl rfl ?_
      cases hb3 : (σ.2.2.1 3) with
      | none =>
        rw [hb3] at hp
        try dsimp only at hp
        cases hp
      | some b3 =>
        rw [hb3] at hp
        try dsimp only at hp
        cases hy4 : el σ.2.2.2.1 b3 4 with
        | none =>
          rw [hy4] at hp
          cases hp
        | some y4 =>
          rw [hy4] at hp
          try dsimp only at hp
          refine ck_lE k_H_programAt rfl rfl rfl hy4 ?_
          refine ck_ic k_H_programAt rfl rfl rfl (fun h5 => ?_) (fun h5 => ?_)
          · skip
            rw [if_pos (show y4 ≤ v1 from h5)] at hp
            refine ck_p (L' := [some (.ref a), some (.int v1)]) (st' := [.null]) k_H_programAt rfl rfl ?_
            cases hp
            exact ck_ret (v := some (va_rf none)) k_H_programAt rfl rfl trivial rfl ⟨rfl, rfl⟩
          · skip
            rw [if_neg (show ¬ (y4 ≤ v1) from h5)] at hp
            refine ck_p (L' := [some (.ref a), some (.int v1)]) (st' := [.ref a]) k_H_programAt rfl rfl ?_
            refine ck_g (v := .ref b3) k_H_programAt rfl rfl rfl (by show some (va_rf (σ.2.2.1 3)) = _; rw [hb3]; rfl) ?_
            refine ck_p (L' := [some (.ref a), some (.int v1)]) (st' := [.int v1, .ref b3]) k_H_programAt rfl rfl ?_
            cases hy6 : er σ.2.2.2.1 b3 4 v1 with
            | none =>
              rw [hy6] at hp
              cases hp
            | some y6 =>
              rw [hy6] at hp
              try dsimp only at hp
              refine ck_lr k_H_programAt rfl rfl rfl hy6 ?_
              refine ck_j k_H_programAt rfl rfl ?_
              cases hp
              exact ck_ret (v := some (va_rf y6)) k_H_programAt rfl rfl (by cases y6 <;> exact trivial) rfl ⟨rfl, rfl⟩
noncomputable def sp_H_program  (v1 : Int32) (v2 : Int32) (σ : ck_S) : Option (Int32 × ck_S) := (match sp_H_programAt  v1 σ with
  | none => none
  | some y1 => (match y1.1 with
  | none => some ((-1), y1.2)
  | some b2 => (if eo y1.2.2.2.2.1 b2 3 = true then (match sp_Prog_told  b2 v2 y1.2 with
  | none => none
  | some y4 => some (y4.1, y4.2)) else none)))
theorem c_sp_H_program  {v1 : Int32} {v2 : Int32} {σ : ck_S} {r : Int32 × ck_S} (hp : sp_H_program  v1 v2 σ = some r) : ck_Has l F (d + 2) m_H_program h_K a A [.ref a, .int v1, .int v2] σ (fun w σ' => w = some (.int r.1) ∧ σ' = r.2) := by
  refine ck_meth (k := 1) (L := [some (.ref a), some (.int v1), some (.int v2), none]) pn_H rfl (Nat.le_of_ble_eq_true rfl) ?_
  unfold sp_H_program at hp
  refine ck_p (L' := [some (.ref a), some (.int v1), some (.int v2), none]) (st' := [.ref a]) k_H_program rfl rfl ?_
  refine ck_p (L' := [some (.ref a), some (.int v1), some (.int v2), none]) (st' := [.int v1, .ref a]) k_H_program rfl rfl ?_
  cases hy1 : sp_H_programAt  v1 σ with
  | none =>
    rw [hy1] at hp
    cases hp
  | some y1 =>
    rw [hy1] at hp
    try dsimp only at hp
    refine ck_ivB (M' := m_H_programAt) (As := [.int v1]) k_H_program rfl rfl rfl rfl rfl rfl rfl (Nat.le_of_ble_eq_true rfl) (c_sp_H_programAt  hy1) (fun hby1 => ?_)
    refine ck_p (L' := [some (.ref a), some (.int v1), some (.int v2), some (va_rf y1.1)]) (st' := []) k_H_program rfl (by cases y1.1 <;> rfl) ?_
    refine ck_p (L' := [some (.ref a), some (.int v1), some (.int v2), some (va_rf y1.1)]) (st' := [va_rf y1.1]) k_H_program rfl (by cases y1.1 <;> rfl) ?_
    cases hb2 : y1.1 with
    | none =>
      rw [hb2] at hp
      try dsimp only at hp
      refine ck_j k_H_program rfl rfl ?_
      refine ck_p (L' := [some (.ref a), some (.int v1), some (.int v2), some (.null)]) (st' := [.int (-1)]) k_H_program rfl rfl ?_
      refine ck_j k_H_program rfl rfl ?_
      cases hp
      exact ck_ret (v := some (.int _)) k_H_program rfl rfl trivial rfl ⟨rfl, rfl⟩
    | some b2 =>
      rw [hb2] at hp
      try dsimp only at hp
      refine ck_j k_H_program rfl rfl ?_
      refine ck_p (L' := [some (.ref a), some (.int v1), some (.int v2), some (.ref b2)]) (st' := [.ref b2]) k_H_program rfl rfl ?_
      refine ck_p (L' := [some (.ref a), some (.int v1), some (.int v2), some (.ref b2)]) (st' := [.int v2, .ref b2]) k_H_program rfl rfl ?_
      by_cases g3 : eo y1.2.2.2.2.1 b2 3 = true
      · rw [if_pos g3] at hp
        cases hy4 : sp_Prog_told  b2 v2 y1.2 with
        | none =>
          rw [hy4] at hp
          cases hp
        | some y4 =>
          rw [hy4] at hp
          try dsimp only at hp
          refine ck_ivO (M' := m_Prog_told) (As := [.int v2]) k_H_program rfl rfl rfl rfl rfl g3 rfl rfl (Nat.le_of_ble_eq_true rfl) (c_sp_Prog_told  hy4) (fun hby4 => ?_)
          cases hp
          exact ck_ret (v := some (.int _)) k_H_program rfl rfl trivial rfl ⟨rfl, rfl⟩
      · rw [if_neg g3] at hp
        cases hp
noncomputable def sp_H_make  (v1 : Int32) (σ : ck_S) : Option (Int32 × ck_S) := (match sp_H_programAt  v1 σ with
  | none => none
  | some y1 => (match y1.1 with
  | none => some ((-1), y1.2)
  | some b2 => (if (y1.2.1 6) < 8 then (match sp_Inst_init  y1.2.2.2.2.2.1 (some b2) (y1.2.1, y1.2.2.1, y1.2.2.2.1, (eset y1.2.2.2.2.1 y1.2.2.2.2.2.1 (.inr (1, gx_def gx_kd1))), (y1.2.2.2.2.2.1 + 1), (y1.2.2.2.2.2.2 + 4)) with
  | none => none
  | some y4 => (match (y1.2.2.2.1 4) with
  | none => none
  | some b5 => (match es y4.2.2.2.1 b5 5 1 (y1.2.1 6) (some y1.2.2.2.2.2.1) with
  | none => none
  | some y6 => some ((y1.2.1 6), ((upd y4.1 6 ((y4.1 6) + 1)), y4.2.1, y4.2.2.1, y6, y4.2.2.2.2.1, y4.2.2.2.2.2))))) else some ((-1), y1.2))))
theorem c_sp_H_make  {v1 : Int32} {σ : ck_S} {r : Int32 × ck_S} (hp : sp_H_make  v1 σ = some r) : ck_Has l F (d + 2) m_H_make h_K a A [.ref a, .int v1] σ (fun w σ' => w = some (.int r.1) ∧ σ' = r.2) := by
  refine ck_meth (k := 2) (L := [some (.ref a), some (.int v1), none, none]) pn_H rfl (Nat.le_of_ble_eq_true rfl) ?_
  unfold sp_H_make at hp
  refine ck_p (L' := [some (.ref a), some (.int v1), none, none]) (st' := [.ref a]) k_H_make rfl rfl ?_
  refine ck_p (L' := [some (.ref a), some (.int v1), none, none]) (st' := [.int v1, .ref a]) k_H_make rfl rfl ?_
  cases hy1 : sp_H_programAt  v1 σ with
  | none =>
    rw [hy1] at hp
    cases hp
  | some y1 =>
    rw [hy1] at hp
    try dsimp only at hp
    refine ck_ivB (M' := m_H_programAt) (As := [.int v1]) k_H_make rfl rfl rfl rfl rfl rfl rfl (Nat.le_of_ble_eq_true rfl) (c_sp_H_programAt  hy1) (fun hby1 => ?_)
    refine ck_p (L' := [some (.ref a), some (.int v1), some (va_rf y1.1), none]) (st' := []) k_H_make rfl (by cases y1.1 <;> rfl) ?_
    refine ck_p (L' := [some (.ref a), some (.int v1), some (va_rf y1.1), none]) (st' := [va_rf y1.1]) k_H_make rfl (by cases y1.1 <;> rfl) ?_
    cases hb2 : y1.1 with
    | none =>
      rw [hb2] at hp
      try dsimp only at hp
      refine ck_j k_H_make rfl rfl ?_
      refine ck_p (L' := [some (.ref a), some (.int v1), some (.null), none]) (st' := [.int (-1)]) k_H_make rfl rfl ?_
      cases hp
      exact ck_ret (v := some (.int _)) k_H_make rfl rfl trivial rfl ⟨rfl, rfl⟩
    | some b2 =>
      rw [hb2] at hp
      try dsimp only at hp
      refine ck_j k_H_make rfl rfl ?_
      refine ck_p (L' := [some (.ref a), some (.int v1), some (.ref b2), none]) (st' := [.ref a]) k_H_make rfl rfl ?_
      refine ck_g k_H_make rfl rfl rfl rfl ?_
      refine ck_p (L' := [some (.ref a), some (.int v1), some (.ref b2), none]) (st' := [.int 8, .int (y1.2.1 6)]) k_H_make rfl rfl ?_
      refine ck_ic k_H_make rfl rfl rfl (fun h3 => ?_) (fun h3 => ?_)
      · skip
        rw [if_pos (show (y1.2.1 6) < 8 from h3)] at hp
        refine ck_p (L' := [some (.ref a), some (.int v1), some (.ref b2), none]) (st' := [.ref a]) k_H_make rfl rfl ?_
        refine ck_g k_H_make rfl rfl rfl rfl ?_
        refine ck_p (L' := [some (.ref a), some (.int v1), some (.ref b2), some (.int (y1.2.1 6))]) (st' := []) k_H_make rfl rfl ?_
        refine ck_p (L' := [some (.ref a), some (.int v1), some (.ref b2), some (.int (y1.2.1 6))]) (st' := [.ref a]) k_H_make rfl rfl ?_
        refine ck_g k_H_make rfl rfl rfl rfl ?_
        refine ck_p (L' := [some (.ref a), some (.int v1), some (.ref b2), some (.int (y1.2.1 6))]) (st' := [.int (y1.2.1 6), va_rf (y1.2.2.2.1 4)]) k_H_make rfl rfl ?_
        refine ck_nw k_H_make rfl rfl rfl rfl rfl rfl ?_
        refine ck_p (L' := [some (.ref a), some (.int v1), some (.ref b2), some (.int (y1.2.1 6))]) (st' := [.ref y1.2.2.2.2.2.1, .ref y1.2.2.2.2.2.1, .int (y1.2.1 6), va_rf (y1.2.2.2.1 4)]) k_H_make rfl rfl ?_
        refine ck_p (L' := [some (.ref a), some (.int v1), some (.ref b2), some (.int (y1.2.1 6))]) (st' := [.ref b2, .ref y1.2.2.2.2.2.1, .ref y1.2.2.2.2.2.1, .int (y1.2.1 6), va_rf (y1.2.2.2.1 4)]) k_H_make rfl rfl ?_
        cases hy4 : sp_Inst_init  y1.2.2.2.2.2.1 (some b2) (y1.2.1, y1.2.2.1, y1.2.2.2.1, (eset y1.2.2.2.2.1 y1.2.2.2.2.2.1 (.inr (1, gx_def gx_kd1))), (y1.2.2.2.2.2.1 + 1), (y1.2.2.2.2.2.2 + 4)) with
        | none =>
          rw [hy4] at hp
          cases hp
        | some y4 =>
          rw [hy4] at hp
          try dsimp only at hp
          refine ck_inV (M' := m_Inst_init) (As := [.ref b2]) k_H_make rfl rfl rfl rfl rfl rfl (by cases (y1.2.2.2.1 4) <;> exact (Nat.le_of_ble_eq_true rfl)) (c_sp_Inst_init  hy4) ?_
          cases hb5 : (y1.2.2.2.1 4) with
          | none =>
            rw [hb5] at hp
            try dsimp only at hp
            cases hp
          | some b5 =>
            rw [hb5] at hp
            try dsimp only at hp
            cases hy6 : es y4.2.2.2.1 b5 5 1 (y1.2.1 6) (some y1.2.2.2.2.2.1) with
            | none =>
              rw [hy6] at hp
              cases hp
            | some y6 =>
              rw [hy6] at hp
              try dsimp only at hp
              refine ck_sr (v := (some y1.2.2.2.2.2.1)) k_H_make rfl rfl rfl rfl hy6 ?_
              refine ck_p (L' := [some (.ref a), some (.int v1), some (.ref b2), some (.int (y1.2.1 6))]) (st' := [.ref a]) k_H_make rfl rfl ?_
              refine ck_p (L' := [some (.ref a), some (.int v1), some (.ref b2), some (.int (y1.2.1 6))]) (st' := [.ref a, .ref a]) k_H_make rfl rfl ?_
              refine ck_g k_H_make rfl rfl rfl rfl ?_
              refine ck_p (L' := [some (.ref a), some (.int v1), some (.ref b2), some (.int (y1.2.1 6))]) (st' := [.int 1, .int (y4.1 6), .ref a]) k_H_make rfl rfl ?_
              refine ck_p (L' := [some (.ref a), some (.int v1), some (.ref b2), some (.int (y1.2.1 6))]) (st' := [.int ((y4.1 6) + 1), .ref a]) k_H_make rfl rfl ?_
              refine ck_pt k_H_make rfl rfl rfl trivial (Nat.le_of_ble_eq_true rfl) rfl ?_
              refine ck_p (L' := [some (.ref a), some (.int v1), some (.ref b2), some (.int (y1.2.1 6))]) (st' := [.int (y1.2.1 6)]) k_H_make rfl rfl ?_
              cases hp
              exact ck_ret (v := some (.int _)) k_H_make rfl rfl trivial rfl ⟨rfl, rfl⟩
      · skip
        rw [if_neg (show ¬ ((y1.2.1 6) < 8) from h3)] at hp
        refine ck_p (L' := [some (.ref a), some (.int v1), some (.ref b2), none]) (st' := [.int (-1)]) k_H_make rfl rfl ?_
        cases hp
        exact ck_ret (v := some (.int _)) k_H_make rfl rfl trivial rfl ⟨rfl, rfl⟩
noncomputable def sp_H_instanceAt  (v1 : Int32) (σ : ck_S) : Option (Option Nat × ck_S) := (if v1 < 0 then some (none, σ) else (if (σ.1 6) ≤ v1 then some (none, σ) else (match (σ.2.2.1 4) with
  | none => none
  | some b3 => (match el σ.2.2.2.1 b3 5 with
  | none => none
  | some y4 => (if y4 ≤ v1 then some (none, σ) else (match er σ.2.2.2.1 b3 5 v1 with
  | none => none
  | some y6 => some (y6, σ)))))))
theorem c_sp_H_instanceAt  {v1 : Int32} {σ : ck_S} {r : Option Nat × ck_S} (hp : sp_H_instanceAt  v1 σ = some r) : ck_Has l F (d) m_H_instanceAt h_K a A [.ref a, .int v1] σ (fun w σ' => w = some (va_rf r.1) ∧ σ' = r.2) := by
  refine ck_meth (k := 0) (L := [some (.ref a), some (.int v1)]) pn_H rfl (Nat.le_of_ble_eq_true rfl) ?_
  unfold sp_H_instanceAt at hp
  refine ck_p (L' := [some (.ref a), some (.int v1)]) (st' := [.int v1]) k_H_instanceAt rfl rfl ?_
  refine ck_if k_H_instanceAt rfl rfl rfl (fun h1 => ?_) (fun h1 => ?_)
  · skip
    rw [if_pos (show v1 < 0 from h1)] at hp
    refine ck_p (L' := [some (.ref a), some (.int v1)]) (st' := [.null]) k_H_instanceAt rfl rfl ?_
    cases hp
    exact ck_ret (v := some (va_rf none)) k_H_instanceAt rfl rfl trivial rfl ⟨rfl, rfl⟩
  · skip
    rw [if_neg (show ¬ (v1 < 0) from h1)] at hp
    refine ck_p (L' := [some (.ref a), some (.int v1)]) (st' := [.int v1]) k_H_instanceAt rfl rfl ?_
    refine ck_p (L' := [some (.ref a), some (.int v1)]) (st' := [.ref a, .int v1]) k_H_instanceAt rfl rfl ?_
    refine ck_g k_H_instanceAt rfl rfl rfl rfl ?_
    refine ck_ic k_H_instanceAt rfl rfl rfl (fun h2 => ?_) (fun h2 => ?_)
    · skip
      rw [if_pos (show (σ.1 6) ≤ v1 from h2)] at hp
      refine ck_p (L' := [some (.ref a), some (.int v1)]) (st' := [.null]) k_H_instanceAt rfl rfl ?_
      cases hp
      exact ck_ret (v := some (va_rf none)) k_H_instanceAt rfl rfl trivial rfl ⟨rfl, rfl⟩
    · skip
      rw [if_neg (show ¬ ((σ.1 6) ≤ v1) from h2)] at hp
      refine ck_p (L' := [some (.ref a), some (.int v1)]) (st' := [.int v1]) k_H_instanceAt rfl rfl ?_
      refine ck_p (L' := [some (.ref a), some (.int v1)]) (st' := [.ref a, .int v1]) k_H_instanceAt rfl rfl ?_
      refine ck_g k_H_instanceAt rfl rfl rfl rfl ?_
      cases hb3 : (σ.2.2.1 4) with
      | none =>
        rw [hb3] at hp
        try dsimp only at hp
        cases hp
      | some b3 =>
        rw [hb3] at hp
        try dsimp only at hp
        cases hy4 : el σ.2.2.2.1 b3 5 with
        | none =>
          rw [hy4] at hp
          cases hp
        | some y4 =>
          rw [hy4] at hp
          try dsimp only at hp
          refine ck_lE k_H_instanceAt rfl rfl rfl hy4 ?_
          refine ck_ic k_H_instanceAt rfl rfl rfl (fun h5 => ?_) (fun h5 => ?_)
          · skip
            rw [if_pos (show y4 ≤ v1 from h5)] at hp
            refine ck_p (L' := [some (.ref a), some (.int v1)]) (st' := [.null]) k_H_instanceAt rfl rfl ?_
            cases hp
            exact ck_ret (v := some (va_rf none)) k_H_instanceAt rfl rfl trivial rfl ⟨rfl, rfl⟩
          · skip
            rw [if_neg (show ¬ (y4 ≤ v1) from h5)] at hp
            refine ck_p (L' := [some (.ref a), some (.int v1)]) (st' := [.ref a]) k_H_instanceAt rfl rfl ?_
            refine ck_g (v := .ref b3) k_H_instanceAt rfl rfl rfl (by show some (va_rf (σ.2.2.1 4)) = _; rw [hb3]; rfl) ?_
            refine ck_p (L' := [some (.ref a), some (.int v1)]) (st' := [.int v1, .ref b3]) k_H_instanceAt rfl rfl ?_
            cases hy6 : er σ.2.2.2.1 b3 5 v1 with
            | none =>
              rw [hy6] at hp
              cases hp
            | some y6 =>
              rw [hy6] at hp
              try dsimp only at hp
              refine ck_lr k_H_instanceAt rfl rfl rfl hy6 ?_
              refine ck_j k_H_instanceAt rfl rfl ?_
              cases hp
              exact ck_ret (v := some (va_rf y6)) k_H_instanceAt rfl rfl (by cases y6 <;> exact trivial) rfl ⟨rfl, rfl⟩
noncomputable def sp_H_tick  (v1 : Int32) (v2 : Int32) (σ : ck_S) : Option (Int32 × ck_S) := (match sp_H_instanceAt  v1 σ with
  | none => none
  | some y1 => (match y1.1 with
  | none => some ((-1), y1.2)
  | some b2 => (match egR y1.2.2.2.2.1 b2 1 0 with
  | none => none
  | some y3 => (match y3 with
  | none => none
  | some b4 => (if eo y1.2.2.2.2.1 b4 3 = true then (match sp_Prog_hasInputs  b4 v2 y1.2 with
  | none => none
  | some y6 => (if y6.1 = 0 then some ((-1), y6.2) else (match egR y6.2.2.2.2.1 b2 1 0 with
  | none => none
  | some y8 => (match egI y6.2.2.2.2.1 b2 1 1 with
  | none => none
  | some y9 => (match (y6.2.2.2.1 1) with
  | none => none
  | some b10 => (if eo y6.2.2.2.2.1 b10 6 = true then (match sp_tkE b10 y8 y9 v2 y6.2 with
  | none => none
  | some y12 => (if y12.1 = 0 then (match (y12.2.2.2.1 1) with
  | none => none
  | some b14 => (match egI y12.2.2.2.2.1 b14 6 0 with
  | none => none
  | some y15 => (match ep y12.2.2.2.2.1 b2 1 1 (.int y15) with
  | none => none
  | some y16 => (match egI y16 b14 6 1 with
  | none => none
  | some y17 => (match ep y16 b2 1 2 (.int y17) with
  | none => none
  | some y18 => (match egI y18 b2 1 3 with
  | none => none
  | some y19 => (match ep y18 b2 1 3 (.int (y19 + 1)) with
  | none => none
  | some y20 => some (y12.1, (y12.2.1, y12.2.2.1, y12.2.2.2.1, y20, y12.2.2.2.2.2.1, y12.2.2.2.2.2.2))))))))) else some (y12.1, y12.2))) else none)))))) else none)))))
theorem c_sp_H_tick  {v1 : Int32} {v2 : Int32} {σ : ck_S} {r : Int32 × ck_S} (hp : sp_H_tick  v1 v2 σ = some r) : ck_Has l F (d + 1203) m_H_tick h_K a A [.ref a, .int v1, .int v2] σ (fun w σ' => w = some (.int r.1) ∧ σ' = r.2) := by
  refine ck_meth (k := 2) (L := [some (.ref a), some (.int v1), some (.int v2), none, none]) pn_H rfl (Nat.le_of_ble_eq_true rfl) ?_
  unfold sp_H_tick at hp
  refine ck_p (L' := [some (.ref a), some (.int v1), some (.int v2), none, none]) (st' := [.ref a]) k_H_tick rfl rfl ?_
  refine ck_p (L' := [some (.ref a), some (.int v1), some (.int v2), none, none]) (st' := [.int v1, .ref a]) k_H_tick rfl rfl ?_
  cases hy1 : sp_H_instanceAt  v1 σ with
  | none =>
    rw [hy1] at hp
    cases hp
  | some y1 =>
    rw [hy1] at hp
    try dsimp only at hp
    refine ck_ivB (M' := m_H_instanceAt) (As := [.int v1]) k_H_tick rfl rfl rfl rfl rfl rfl rfl (Nat.le_of_ble_eq_true rfl) (c_sp_H_instanceAt  hy1) (fun hby1 => ?_)
    refine ck_p (L' := [some (.ref a), some (.int v1), some (.int v2), some (va_rf y1.1), none]) (st' := []) k_H_tick rfl (by cases y1.1 <;> rfl) ?_
    refine ck_p (L' := [some (.ref a), some (.int v1), some (.int v2), some (va_rf y1.1), none]) (st' := [va_rf y1.1]) k_H_tick rfl (by cases y1.1 <;> rfl) ?_
    cases hb2 : y1.1 with
    | none =>
      rw [hb2] at hp
      try dsimp only at hp
      refine ck_j k_H_tick rfl rfl ?_
      refine ck_p (L' := [some (.ref a), some (.int v1), some (.int v2), some (.null), none]) (st' := [.int (-1)]) k_H_tick rfl rfl ?_
      cases hp
      exact ck_ret (v := some (.int _)) k_H_tick rfl rfl trivial rfl ⟨rfl, rfl⟩
    | some b2 =>
      rw [hb2] at hp
      try dsimp only at hp
      refine ck_j k_H_tick rfl rfl ?_
      refine ck_p (L' := [some (.ref a), some (.int v1), some (.int v2), some (.ref b2), none]) (st' := [.ref b2]) k_H_tick rfl rfl ?_
      cases hy3 : egR y1.2.2.2.2.1 b2 1 0 with
      | none =>
        rw [hy3] at hp
        cases hp
      | some y3 =>
        rw [hy3] at hp
        try dsimp only at hp
        refine ck_gE k_H_tick rfl rfl rfl (egR_of hy3) ?_
        refine ck_p (L' := [some (.ref a), some (.int v1), some (.int v2), some (.ref b2), none]) (st' := [.int v2, va_rf y3]) k_H_tick rfl rfl ?_
        cases y3 with
        | none =>
          try dsimp only at hp
          cases hp
        | some b4 =>
          try dsimp only at hp
          by_cases g5 : eo y1.2.2.2.2.1 b4 3 = true
          · rw [if_pos g5] at hp
            cases hy6 : sp_Prog_hasInputs  b4 v2 y1.2 with
            | none =>
              rw [hy6] at hp
              cases hp
            | some y6 =>
              rw [hy6] at hp
              try dsimp only at hp
              refine ck_ivO (M' := m_Prog_hasInputs) (As := [.int v2]) k_H_tick rfl rfl rfl rfl rfl g5 rfl rfl (Nat.le_of_ble_eq_true rfl) (c_sp_Prog_hasInputs  hy6) (fun hby6 => ?_)
              refine ck_if k_H_tick rfl rfl rfl (fun h7 => ?_) (fun h7 => ?_)
              · skip
                rw [if_neg (show ¬ (y6.1 = 0) from h7)] at hp
                refine ck_p (L' := [some (.ref a), some (.int v1), some (.int v2), some (.ref b2), none]) (st' := [.ref a]) k_H_tick rfl rfl ?_
                refine ck_g k_H_tick rfl rfl rfl rfl ?_
                refine ck_p (L' := [some (.ref a), some (.int v1), some (.int v2), some (.ref b2), none]) (st' := [.ref b2, va_rf (y6.2.2.2.1 1)]) k_H_tick rfl rfl ?_
                cases hy8 : egR y6.2.2.2.2.1 b2 1 0 with
                | none =>
                  rw [hy8] at hp
                  cases hp
                | some y8 =>
                  rw [hy8] at hp
                  try dsimp only at hp
                  refine ck_gE k_H_tick rfl rfl rfl (egR_of hy8) ?_
                  refine ck_p (L' := [some (.ref a), some (.int v1), some (.int v2), some (.ref b2), none]) (st' := [.ref b2, va_rf y8, va_rf (y6.2.2.2.1 1)]) k_H_tick rfl rfl ?_
                  cases hy9 : egI y6.2.2.2.2.1 b2 1 1 with
                  | none =>
                    rw [hy9] at hp
                    cases hp
                  | some y9 =>
                    rw [hy9] at hp
                    try dsimp only at hp
                    refine ck_gE k_H_tick rfl rfl rfl (egI_of hy9) ?_
                    refine ck_p (L' := [some (.ref a), some (.int v1), some (.int v2), some (.ref b2), none]) (st' := [.int v2, .int y9, va_rf y8, va_rf (y6.2.2.2.1 1)]) k_H_tick rfl rfl ?_
                    cases hb10 : (y6.2.2.2.1 1) with
                    | none =>
                      rw [hb10] at hp
                      try dsimp only at hp
                      cases hp
                    | some b10 =>
                      rw [hb10] at hp
                      try dsimp only at hp
                      by_cases g11 : eo y6.2.2.2.2.1 b10 6 = true
                      · rw [if_pos g11] at hp
                        cases hy12 : sp_tkE b10 y8 y9 v2 y6.2 with
                        | none =>
                          rw [hy12] at hp
                          cases hp
                        | some y12 =>
                          rw [hy12] at hp
                          try dsimp only at hp
                          refine ck_ivO (M' := m_Tk_go) (As := [va_rf y8, .int y9, .int v2]) k_H_tick rfl rfl rfl rfl rfl g11 rfl rfl (Nat.le_of_ble_eq_true rfl) (c_tkE hy12) (fun hby12 => ?_)
                          refine ck_p (L' := [some (.ref a), some (.int v1), some (.int v2), some (.ref b2), some (.int y12.1)]) (st' := []) k_H_tick rfl rfl ?_
                          refine ck_p (L' := [some (.ref a), some (.int v1), some (.int v2), some (.ref b2), some (.int y12.1)]) (st' := [.int y12.1]) k_H_tick rfl rfl ?_
                          refine ck_if k_H_tick rfl rfl rfl (fun h13 => ?_) (fun h13 => ?_)
                          · skip
                            rw [if_neg (show ¬ (y12.1 = 0) from h13)] at hp
                            refine ck_p (L' := [some (.ref a), some (.int v1), some (.int v2), some (.ref b2), some (.int y12.1)]) (st' := [.int y12.1]) k_H_tick rfl rfl ?_
                            cases hp
                            exact ck_ret (v := some (.int _)) k_H_tick rfl rfl trivial rfl ⟨rfl, rfl⟩
                          · skip
                            rw [if_pos (show y12.1 = 0 from h13)] at hp
                            refine ck_p (L' := [some (.ref a), some (.int v1), some (.int v2), some (.ref b2), some (.int y12.1)]) (st' := [.ref b2]) k_H_tick rfl rfl ?_
                            refine ck_p (L' := [some (.ref a), some (.int v1), some (.int v2), some (.ref b2), some (.int y12.1)]) (st' := [.ref a, .ref b2]) k_H_tick rfl rfl ?_
                            refine ck_g k_H_tick rfl rfl rfl rfl ?_
                            cases hb14 : (y12.2.2.2.1 1) with
                            | none =>
                              rw [hb14] at hp
                              try dsimp only at hp
                              cases hp
                            | some b14 =>
                              rw [hb14] at hp
                              try dsimp only at hp
                              cases hy15 : egI y12.2.2.2.2.1 b14 6 0 with
                              | none =>
                                rw [hy15] at hp
                                cases hp
                              | some y15 =>
                                rw [hy15] at hp
                                try dsimp only at hp
                                refine ck_gE k_H_tick rfl rfl rfl (egI_of hy15) ?_
                                cases hy16 : ep y12.2.2.2.2.1 b2 1 1 (.int y15) with
                                | none =>
                                  rw [hy16] at hp
                                  cases hp
                                | some y16 =>
                                  rw [hy16] at hp
                                  try dsimp only at hp
                                  refine ck_pE k_H_tick rfl rfl rfl trivial hy16 ?_
                                  refine ck_p (L' := [some (.ref a), some (.int v1), some (.int v2), some (.ref b2), some (.int y12.1)]) (st' := [.ref b2]) k_H_tick rfl rfl ?_
                                  refine ck_p (L' := [some (.ref a), some (.int v1), some (.int v2), some (.ref b2), some (.int y12.1)]) (st' := [.ref a, .ref b2]) k_H_tick rfl rfl ?_
                                  refine ck_g (v := .ref b14) k_H_tick rfl rfl rfl (by show some (va_rf (y12.2.2.2.1 1)) = _; rw [hb14]; rfl) ?_
                                  cases hy17 : egI y16 b14 6 1 with
                                  | none =>
                                    rw [hy17] at hp
                                    cases hp
                                  | some y17 =>
                                    rw [hy17] at hp
                                    try dsimp only at hp
                                    refine ck_gE k_H_tick rfl rfl rfl (egI_of hy17) ?_
                                    cases hy18 : ep y16 b2 1 2 (.int y17) with
                                    | none =>
                                      rw [hy18] at hp
                                      cases hp
                                    | some y18 =>
                                      rw [hy18] at hp
                                      try dsimp only at hp
                                      refine ck_pE k_H_tick rfl rfl rfl trivial hy18 ?_
                                      refine ck_p (L' := [some (.ref a), some (.int v1), some (.int v2), some (.ref b2), some (.int y12.1)]) (st' := [.ref b2]) k_H_tick rfl rfl ?_
                                      refine ck_p (L' := [some (.ref a), some (.int v1), some (.int v2), some (.ref b2), some (.int y12.1)]) (st' := [.ref b2, .ref b2]) k_H_tick rfl rfl ?_
                                      cases hy19 : egI y18 b2 1 3 with
                                      | none =>
                                        rw [hy19] at hp
                                        cases hp
                                      | some y19 =>
                                        rw [hy19] at hp
                                        try dsimp only at hp
                                        refine ck_gE k_H_tick rfl rfl rfl (egI_of hy19) ?_
                                        refine ck_p (L' := [some (.ref a), some (.int v1), some (.int v2), some (.ref b2), some (.int y12.1)]) (st' := [.int 1, .int y19, .ref b2]) k_H_tick rfl rfl ?_
                                        refine ck_p (L' := [some (.ref a), some (.int v1), some (.int v2), some (.ref b2), some (.int y12.1)]) (st' := [.int (y19 + 1), .ref b2]) k_H_tick rfl rfl ?_
                                        cases hy20 : ep y18 b2 1 3 (.int (y19 + 1)) with
                                        | none =>
                                          rw [hy20] at hp
                                          cases hp
                                        | some y20 =>
                                          rw [hy20] at hp
                                          try dsimp only at hp
                                          refine ck_pE k_H_tick rfl rfl rfl trivial hy20 ?_
                                          refine ck_p (L' := [some (.ref a), some (.int v1), some (.int v2), some (.ref b2), some (.int y12.1)]) (st' := [.int y12.1]) k_H_tick rfl rfl ?_
                                          cases hp
                                          exact ck_ret (v := some (.int _)) k_H_tick rfl rfl trivial rfl ⟨rfl, rfl⟩
                      · rw [if_neg g11] at hp
                        cases hp
              · skip
                rw [if_pos (show y6.1 = 0 from h7)] at hp
                refine ck_p (L' := [some (.ref a), some (.int v1), some (.int v2), some (.ref b2), none]) (st' := [.int (-1)]) k_H_tick rfl rfl ?_
                cases hp
                exact ck_ret (v := some (.int _)) k_H_tick rfl rfl trivial rfl ⟨rfl, rfl⟩
          · rw [if_neg g5] at hp
            cases hp
noncomputable def sp_H_out  (v1 : Int32) (σ : ck_S) : Option (Int32 × ck_S) := (match sp_H_instanceAt  v1 σ with
  | none => none
  | some y1 => (match y1.1 with
  | none => some ((-1), y1.2)
  | some b2 => (match egI y1.2.2.2.2.1 b2 1 2 with
  | none => none
  | some y3 => some (y3, y1.2))))
theorem c_sp_H_out  {v1 : Int32} {σ : ck_S} {r : Int32 × ck_S} (hp : sp_H_out  v1 σ = some r) : ck_Has l F (d + 1) m_H_out h_K a A [.ref a, .int v1] σ (fun w σ' => w = some (.int r.1) ∧ σ' = r.2) := by
  refine ck_meth (k := 1) (L := [some (.ref a), some (.int v1), none]) pn_H rfl (Nat.le_of_ble_eq_true rfl) ?_
  unfold sp_H_out at hp
  refine ck_p (L' := [some (.ref a), some (.int v1), none]) (st' := [.ref a]) k_H_out rfl rfl ?_
  refine ck_p (L' := [some (.ref a), some (.int v1), none]) (st' := [.int v1, .ref a]) k_H_out rfl rfl ?_
  cases hy1 : sp_H_instanceAt  v1 σ with
  | none =>
    rw [hy1] at hp
    cases hp
  | some y1 =>
    rw [hy1] at hp
    try dsimp only at hp
    refine ck_ivB (M' := m_H_instanceAt) (As := [.int v1]) k_H_out rfl rfl rfl rfl rfl rfl rfl (Nat.le_of_ble_eq_true rfl) (c_sp_H_instanceAt  hy1) (fun hby1 => ?_)
    refine ck_p (L' := [some (.ref a), some (.int v1), some (va_rf y1.1)]) (st' := []) k_H_out rfl (by cases y1.1 <;> rfl) ?_
    refine ck_p (L' := [some (.ref a), some (.int v1), some (va_rf y1.1)]) (st' := [va_rf y1.1]) k_H_out rfl (by cases y1.1 <;> rfl) ?_
    cases hb2 : y1.1 with
    | none =>
      rw [hb2] at hp
      try dsimp only at hp
      refine ck_j k_H_out rfl rfl ?_
      refine ck_p (L' := [some (.ref a), some (.int v1), some (.null)]) (st' := [.int (-1)]) k_H_out rfl rfl ?_
      refine ck_j k_H_out rfl rfl ?_
      cases hp
      exact ck_ret (v := some (.int _)) k_H_out rfl rfl trivial rfl ⟨rfl, rfl⟩
    | some b2 =>
      rw [hb2] at hp
      try dsimp only at hp
      refine ck_j k_H_out rfl rfl ?_
      refine ck_p (L' := [some (.ref a), some (.int v1), some (.ref b2)]) (st' := [.ref b2]) k_H_out rfl rfl ?_
      cases hy3 : egI y1.2.2.2.2.1 b2 1 2 with
      | none =>
        rw [hy3] at hp
        cases hp
      | some y3 =>
        rw [hy3] at hp
        try dsimp only at hp
        refine ck_gE k_H_out rfl rfl rfl (egI_of hy3) ?_
        cases hp
        exact ck_ret (v := some (.int _)) k_H_out rfl rfl trivial rfl ⟨rfl, rfl⟩
noncomputable def sp_H_stands  (v1 : Int32) (σ : ck_S) : Option (Int32 × ck_S) := (match sp_H_instanceAt  v1 σ with
  | none => none
  | some y1 => (match y1.1 with
  | none => some ((-1), y1.2)
  | some b2 => (match egI y1.2.2.2.2.1 b2 1 1 with
  | none => none
  | some y3 => some (y3, y1.2))))
theorem c_sp_H_stands  {v1 : Int32} {σ : ck_S} {r : Int32 × ck_S} (hp : sp_H_stands  v1 σ = some r) : ck_Has l F (d + 1) m_H_stands h_K a A [.ref a, .int v1] σ (fun w σ' => w = some (.int r.1) ∧ σ' = r.2) := by
  refine ck_meth (k := 1) (L := [some (.ref a), some (.int v1), none]) pn_H rfl (Nat.le_of_ble_eq_true rfl) ?_
  unfold sp_H_stands at hp
  refine ck_p (L' := [some (.ref a), some (.int v1), none]) (st' := [.ref a]) k_H_stands rfl rfl ?_
  refine ck_p (L' := [some (.ref a), some (.int v1), none]) (st' := [.int v1, .ref a]) k_H_stands rfl rfl ?_
  cases hy1 : sp_H_instanceAt  v1 σ with
  | none =>
    rw [hy1] at hp
    cases hp
  | some y1 =>
    rw [hy1] at hp
    try dsimp only at hp
    refine ck_ivB (M' := m_H_instanceAt) (As := [.int v1]) k_H_stands rfl rfl rfl rfl rfl rfl rfl (Nat.le_of_ble_eq_true rfl) (c_sp_H_instanceAt  hy1) (fun hby1 => ?_)
    refine ck_p (L' := [some (.ref a), some (.int v1), some (va_rf y1.1)]) (st' := []) k_H_stands rfl (by cases y1.1 <;> rfl) ?_
    refine ck_p (L' := [some (.ref a), some (.int v1), some (va_rf y1.1)]) (st' := [va_rf y1.1]) k_H_stands rfl (by cases y1.1 <;> rfl) ?_
    cases hb2 : y1.1 with
    | none =>
      rw [hb2] at hp
      try dsimp only at hp
      refine ck_j k_H_stands rfl rfl ?_
      refine ck_p (L' := [some (.ref a), some (.int v1), some (.null)]) (st' := [.int (-1)]) k_H_stands rfl rfl ?_
      refine ck_j k_H_stands rfl rfl ?_
      cases hp
      exact ck_ret (v := some (.int _)) k_H_stands rfl rfl trivial rfl ⟨rfl, rfl⟩
    | some b2 =>
      rw [hb2] at hp
      try dsimp only at hp
      refine ck_j k_H_stands rfl rfl ?_
      refine ck_p (L' := [some (.ref a), some (.int v1), some (.ref b2)]) (st' := [.ref b2]) k_H_stands rfl rfl ?_
      cases hy3 : egI y1.2.2.2.2.1 b2 1 1 with
      | none =>
        rw [hy3] at hp
        cases hp
      | some y3 =>
        rw [hy3] at hp
        try dsimp only at hp
        refine ck_gE k_H_stands rfl rfl rfl (egI_of hy3) ?_
        cases hp
        exact ck_ret (v := some (.int _)) k_H_stands rfl rfl trivial rfl ⟨rfl, rfl⟩
noncomputable def sp_H_back  (v1 : Int32) (v2 : Int32) (σ : ck_S) : Option (Int32 × ck_S) := (match sp_H_instanceAt  v1 σ with
  | none => none
  | some y1 => (match y1.1 with
  | none => some (0, y1.2)
  | some b2 => (match egR y1.2.2.2.2.1 b2 1 0 with
  | none => none
  | some y3 => (match y3 with
  | none => none
  | some b4 => (if eo y1.2.2.2.2.1 b4 3 = true then (match sp_Prog_canStandAt  b4 v2 y1.2 with
  | none => none
  | some y6 => (if y6.1 = 0 then some (0, y6.2) else (match ep y6.2.2.2.2.1 b2 1 1 (.int v2) with
  | none => none
  | some y8 => some (1, (y6.2.1, y6.2.2.1, y6.2.2.2.1, y8, y6.2.2.2.2.2.1, y6.2.2.2.2.2.2))))) else none)))))
theorem c_sp_H_back  {v1 : Int32} {v2 : Int32} {σ : ck_S} {r : Int32 × ck_S} (hp : sp_H_back  v1 v2 σ = some r) : ck_Has l F (d + 202) m_H_back h_K a A [.ref a, .int v1, .int v2] σ (fun w σ' => w = some (.int r.1) ∧ σ' = r.2) := by
  refine ck_meth (k := 1) (L := [some (.ref a), some (.int v1), some (.int v2), none]) pn_H rfl (Nat.le_of_ble_eq_true rfl) ?_
  unfold sp_H_back at hp
  refine ck_p (L' := [some (.ref a), some (.int v1), some (.int v2), none]) (st' := [.ref a]) k_H_back rfl rfl ?_
  refine ck_p (L' := [some (.ref a), some (.int v1), some (.int v2), none]) (st' := [.int v1, .ref a]) k_H_back rfl rfl ?_
  cases hy1 : sp_H_instanceAt  v1 σ with
  | none =>
    rw [hy1] at hp
    cases hp
  | some y1 =>
    rw [hy1] at hp
    try dsimp only at hp
    refine ck_ivB (M' := m_H_instanceAt) (As := [.int v1]) k_H_back rfl rfl rfl rfl rfl rfl rfl (Nat.le_of_ble_eq_true rfl) (c_sp_H_instanceAt  hy1) (fun hby1 => ?_)
    refine ck_p (L' := [some (.ref a), some (.int v1), some (.int v2), some (va_rf y1.1)]) (st' := []) k_H_back rfl (by cases y1.1 <;> rfl) ?_
    refine ck_p (L' := [some (.ref a), some (.int v1), some (.int v2), some (va_rf y1.1)]) (st' := [va_rf y1.1]) k_H_back rfl (by cases y1.1 <;> rfl) ?_
    cases hb2 : y1.1 with
    | none =>
      rw [hb2] at hp
      try dsimp only at hp
      refine ck_j k_H_back rfl rfl ?_
      refine ck_p (L' := [some (.ref a), some (.int v1), some (.int v2), some (.null)]) (st' := [.int 0]) k_H_back rfl rfl ?_
      cases hp
      exact ck_ret (v := some (.int _)) k_H_back rfl rfl (Or.inl rfl) rfl ⟨rfl, rfl⟩
    | some b2 =>
      rw [hb2] at hp
      try dsimp only at hp
      refine ck_j k_H_back rfl rfl ?_
      refine ck_p (L' := [some (.ref a), some (.int v1), some (.int v2), some (.ref b2)]) (st' := [.ref b2]) k_H_back rfl rfl ?_
      cases hy3 : egR y1.2.2.2.2.1 b2 1 0 with
      | none =>
        rw [hy3] at hp
        cases hp
      | some y3 =>
        rw [hy3] at hp
        try dsimp only at hp
        refine ck_gE k_H_back rfl rfl rfl (egR_of hy3) ?_
        refine ck_p (L' := [some (.ref a), some (.int v1), some (.int v2), some (.ref b2)]) (st' := [.int v2, va_rf y3]) k_H_back rfl rfl ?_
        cases y3 with
        | none =>
          try dsimp only at hp
          cases hp
        | some b4 =>
          try dsimp only at hp
          by_cases g5 : eo y1.2.2.2.2.1 b4 3 = true
          · rw [if_pos g5] at hp
            cases hy6 : sp_Prog_canStandAt  b4 v2 y1.2 with
            | none =>
              rw [hy6] at hp
              cases hp
            | some y6 =>
              rw [hy6] at hp
              try dsimp only at hp
              refine ck_ivO (M' := m_Prog_canStandAt) (As := [.int v2]) k_H_back rfl rfl rfl rfl rfl g5 rfl rfl (Nat.le_of_ble_eq_true rfl) (c_sp_Prog_canStandAt  hy6) (fun hby6 => ?_)
              refine ck_if k_H_back rfl rfl rfl (fun h7 => ?_) (fun h7 => ?_)
              · skip
                rw [if_neg (show ¬ (y6.1 = 0) from h7)] at hp
                refine ck_p (L' := [some (.ref a), some (.int v1), some (.int v2), some (.ref b2)]) (st' := [.ref b2]) k_H_back rfl rfl ?_
                refine ck_p (L' := [some (.ref a), some (.int v1), some (.int v2), some (.ref b2)]) (st' := [.int v2, .ref b2]) k_H_back rfl rfl ?_
                cases hy8 : ep y6.2.2.2.2.1 b2 1 1 (.int v2) with
                | none =>
                  rw [hy8] at hp
                  cases hp
                | some y8 =>
                  rw [hy8] at hp
                  try dsimp only at hp
                  refine ck_pE k_H_back rfl rfl rfl trivial hy8 ?_
                  refine ck_p (L' := [some (.ref a), some (.int v1), some (.int v2), some (.ref b2)]) (st' := [.int 1]) k_H_back rfl rfl ?_
                  cases hp
                  exact ck_ret (v := some (.int _)) k_H_back rfl rfl (Or.inr rfl) rfl ⟨rfl, rfl⟩
              · skip
                rw [if_pos (show y6.1 = 0 from h7)] at hp
                refine ck_p (L' := [some (.ref a), some (.int v1), some (.int v2), some (.ref b2)]) (st' := [.int 0]) k_H_back rfl rfl ?_
                cases hp
                exact ck_ret (v := some (.int _)) k_H_back rfl rfl (Or.inl rfl) rfl ⟨rfl, rfl⟩
          · rw [if_neg g5] at hp
            cases hp
noncomputable def sp_H_ticks  (v1 : Int32) (σ : ck_S) : Option (Int32 × ck_S) := (match sp_H_instanceAt  v1 σ with
  | none => none
  | some y1 => (match y1.1 with
  | none => some ((-1), y1.2)
  | some b2 => (match egI y1.2.2.2.2.1 b2 1 3 with
  | none => none
  | some y3 => some (y3, y1.2))))
theorem c_sp_H_ticks  {v1 : Int32} {σ : ck_S} {r : Int32 × ck_S} (hp : sp_H_ticks  v1 σ = some r) : ck_Has l F (d + 1) m_H_ticks h_K a A [.ref a, .int v1] σ (fun w σ' => w = some (.int r.1) ∧ σ' = r.2) := by
  refine ck_meth (k := 1) (L := [some (.ref a), some (.int v1), none]) pn_H rfl (Nat.le_of_ble_eq_true rfl) ?_
  unfold sp_H_ticks at hp
  refine ck_p (L' := [some (.ref a), some (.int v1), none]) (st' := [.ref a]) k_H_ticks rfl rfl ?_
  refine ck_p (L' := [some (.ref a), some (.int v1), none]) (st' := [.int v1, .ref a]) k_H_ticks rfl rfl ?_
  cases hy1 : sp_H_instanceAt  v1 σ with
  | none =>
    rw [hy1] at hp
    cases hp
  | some y1 =>
    rw [hy1] at hp
    try dsimp only at hp
    refine ck_ivB (M' := m_H_instanceAt) (As := [.int v1]) k_H_ticks rfl rfl rfl rfl rfl rfl rfl (Nat.le_of_ble_eq_true rfl) (c_sp_H_instanceAt  hy1) (fun hby1 => ?_)
    refine ck_p (L' := [some (.ref a), some (.int v1), some (va_rf y1.1)]) (st' := []) k_H_ticks rfl (by cases y1.1 <;> rfl) ?_
    refine ck_p (L' := [some (.ref a), some (.int v1), some (va_rf y1.1)]) (st' := [va_rf y1.1]) k_H_ticks rfl (by cases y1.1 <;> rfl) ?_
    cases hb2 : y1.1 with
    | none =>
      rw [hb2] at hp
      try dsimp only at hp
      refine ck_j k_H_ticks rfl rfl ?_
      refine ck_p (L' := [some (.ref a), some (.int v1), some (.null)]) (st' := [.int (-1)]) k_H_ticks rfl rfl ?_
      refine ck_j k_H_ticks rfl rfl ?_
      cases hp
      exact ck_ret (v := some (.int _)) k_H_ticks rfl rfl trivial rfl ⟨rfl, rfl⟩
    | some b2 =>
      rw [hb2] at hp
      try dsimp only at hp
      refine ck_j k_H_ticks rfl rfl ?_
      refine ck_p (L' := [some (.ref a), some (.int v1), some (.ref b2)]) (st' := [.ref b2]) k_H_ticks rfl rfl ?_
      cases hy3 : egI y1.2.2.2.2.1 b2 1 3 with
      | none =>
        rw [hy3] at hp
        cases hp
      | some y3 =>
        rw [hy3] at hp
        try dsimp only at hp
        refine ck_gE k_H_ticks rfl rfl rfl (egI_of hy3) ?_
        cases hp
        exact ck_ret (v := some (.int _)) k_H_ticks rfl rfl trivial rfl ⟨rfl, rfl⟩
noncomputable def sp_H_search  (v1 : Int32) (v2 : Int32) (v3 : Int32) (σ : ck_S) : Option (Int32 × ck_S) := (match sp_H_programAt  v1 σ with
  | none => none
  | some y1 => (match y1.1 with
  | none => some ((-1), y1.2)
  | some b2 => (match egI y1.2.2.2.2.1 b2 3 1 with
  | none => none
  | some y3 => (if y3 ≤ 4 then (if v2 < (-1) then some ((-1), y1.2) else (match egI y1.2.2.2.2.1 b2 3 2 with
  | none => none
  | some y6 => (if y6 ≤ v2 then some ((-1), y1.2) else (if (q_H_isMost v3) = 0 then some ((-1), y1.2) else (match (y1.2.2.2.1 2) with
  | none => none
  | some b9 => (if eo y1.2.2.2.2.1 b9 5 = true then (match sp_in sk_K b9 (sp_Sk_seek  (some b2) none v2 v3) y1.2 with
  | none => none
  | some y11 => some (y11.1, y11.2)) else none)))))) else some ((-1), y1.2)))))
theorem c_sp_H_search  {v1 : Int32} {v2 : Int32} {v3 : Int32} {σ : ck_S} {r : Int32 × ck_S} (hp : sp_H_search  v1 v2 v3 σ = some r) : ck_Has l F (d + 1205) m_H_search h_K a A [.ref a, .int v1, .int v2, .int v3] σ (fun w σ' => w = some (.int r.1) ∧ σ' = r.2) := by
  refine ck_meth (k := 1) (L := [some (.ref a), some (.int v1), some (.int v2), some (.int v3), none]) pn_H rfl (Nat.le_of_ble_eq_true rfl) ?_
  unfold sp_H_search at hp
  refine ck_p (L' := [some (.ref a), some (.int v1), some (.int v2), some (.int v3), none]) (st' := [.ref a]) k_H_search rfl rfl ?_
  refine ck_p (L' := [some (.ref a), some (.int v1), some (.int v2), some (.int v3), none]) (st' := [.int v1, .ref a]) k_H_search rfl rfl ?_
  cases hy1 : sp_H_programAt  v1 σ with
  | none =>
    rw [hy1] at hp
    cases hp
  | some y1 =>
    rw [hy1] at hp
    try dsimp only at hp
    refine ck_ivB (M' := m_H_programAt) (As := [.int v1]) k_H_search rfl rfl rfl rfl rfl rfl rfl (Nat.le_of_ble_eq_true rfl) (c_sp_H_programAt  hy1) (fun hby1 => ?_)
    refine ck_p (L' := [some (.ref a), some (.int v1), some (.int v2), some (.int v3), some (va_rf y1.1)]) (st' := []) k_H_search rfl (by cases y1.1 <;> rfl) ?_
    refine ck_p (L' := [some (.ref a), some (.int v1), some (.int v2), some (.int v3), some (va_rf y1.1)]) (st' := [va_rf y1.1]) k_H_search rfl (by cases y1.1 <;> rfl) ?_
    cases hb2 : y1.1 with
    | none =>
      rw [hb2] at hp
      try dsimp only at hp
      refine ck_j k_H_search rfl rfl ?_
      refine ck_p (L' := [some (.ref a), some (.int v1), some (.int v2), some (.int v3), some (.null)]) (st' := [.int (-1)]) k_H_search rfl rfl ?_
      cases hp
      exact ck_ret (v := some (.int _)) k_H_search rfl rfl trivial rfl ⟨rfl, rfl⟩
    | some b2 =>
      rw [hb2] at hp
      try dsimp only at hp
      refine ck_j k_H_search rfl rfl ?_
      refine ck_p (L' := [some (.ref a), some (.int v1), some (.int v2), some (.int v3), some (.ref b2)]) (st' := [.ref b2]) k_H_search rfl rfl ?_
      cases hy3 : egI y1.2.2.2.2.1 b2 3 1 with
      | none =>
        rw [hy3] at hp
        cases hp
      | some y3 =>
        rw [hy3] at hp
        try dsimp only at hp
        refine ck_gE k_H_search rfl rfl rfl (egI_of hy3) ?_
        refine ck_p (L' := [some (.ref a), some (.int v1), some (.int v2), some (.int v3), some (.ref b2)]) (st' := [.int 4, .int y3]) k_H_search rfl rfl ?_
        refine ck_ic k_H_search rfl rfl rfl (fun h4 => ?_) (fun h4 => ?_)
        · skip
          rw [if_pos (show y3 ≤ 4 from h4)] at hp
          refine ck_p (L' := [some (.ref a), some (.int v1), some (.int v2), some (.int v3), some (.ref b2)]) (st' := [.int v2]) k_H_search rfl rfl ?_
          refine ck_p (L' := [some (.ref a), some (.int v1), some (.int v2), some (.int v3), some (.ref b2)]) (st' := [.int (-1), .int v2]) k_H_search rfl rfl ?_
          refine ck_ic k_H_search rfl rfl rfl (fun h5 => ?_) (fun h5 => ?_)
          · skip
            rw [if_pos (show v2 < (-1) from h5)] at hp
            refine ck_p (L' := [some (.ref a), some (.int v1), some (.int v2), some (.int v3), some (.ref b2)]) (st' := [.int (-1)]) k_H_search rfl rfl ?_
            cases hp
            exact ck_ret (v := some (.int _)) k_H_search rfl rfl trivial rfl ⟨rfl, rfl⟩
          · skip
            rw [if_neg (show ¬ (v2 < (-1)) from h5)] at hp
            refine ck_p (L' := [some (.ref a), some (.int v1), some (.int v2), some (.int v3), some (.ref b2)]) (st' := [.int v2]) k_H_search rfl rfl ?_
            refine ck_p (L' := [some (.ref a), some (.int v1), some (.int v2), some (.int v3), some (.ref b2)]) (st' := [.ref b2, .int v2]) k_H_search rfl rfl ?_
            cases hy6 : egI y1.2.2.2.2.1 b2 3 2 with
            | none =>
              rw [hy6] at hp
              cases hp
            | some y6 =>
              rw [hy6] at hp
              try dsimp only at hp
              refine ck_gE k_H_search rfl rfl rfl (egI_of hy6) ?_
              refine ck_ic k_H_search rfl rfl rfl (fun h7 => ?_) (fun h7 => ?_)
              · skip
                rw [if_pos (show y6 ≤ v2 from h7)] at hp
                refine ck_p (L' := [some (.ref a), some (.int v1), some (.int v2), some (.int v3), some (.ref b2)]) (st' := [.int (-1)]) k_H_search rfl rfl ?_
                cases hp
                exact ck_ret (v := some (.int _)) k_H_search rfl rfl trivial rfl ⟨rfl, rfl⟩
              · skip
                rw [if_neg (show ¬ (y6 ≤ v2) from h7)] at hp
                refine ck_p (L' := [some (.ref a), some (.int v1), some (.int v2), some (.int v3), some (.ref b2)]) (st' := [.int v3]) k_H_search rfl rfl ?_
                refine ck_isB (M' := m_H_isMost) (As := [.int v3]) k_H_search rfl rfl rfl rfl rfl rfl (Nat.le_of_ble_eq_true rfl) (c_q_H_isMost rfl) (fun _ => ?_)
                refine ck_if k_H_search rfl rfl rfl (fun h8 => ?_) (fun h8 => ?_)
                · skip
                  rw [if_neg (show ¬ ((q_H_isMost v3) = 0) from h8)] at hp
                  refine ck_p (L' := [some (.ref a), some (.int v1), some (.int v2), some (.int v3), some (.ref b2)]) (st' := [.ref a]) k_H_search rfl rfl ?_
                  refine ck_g k_H_search rfl rfl rfl rfl ?_
                  refine ck_p (L' := [some (.ref a), some (.int v1), some (.int v2), some (.int v3), some (.ref b2)]) (st' := [.ref b2, va_rf (y1.2.2.2.1 2)]) k_H_search rfl rfl ?_
                  refine ck_p (L' := [some (.ref a), some (.int v1), some (.int v2), some (.int v3), some (.ref b2)]) (st' := [.null, .ref b2, va_rf (y1.2.2.2.1 2)]) k_H_search rfl rfl ?_
                  refine ck_p (L' := [some (.ref a), some (.int v1), some (.int v2), some (.int v3), some (.ref b2)]) (st' := [.int v2, .null, .ref b2, va_rf (y1.2.2.2.1 2)]) k_H_search rfl rfl ?_
                  refine ck_p (L' := [some (.ref a), some (.int v1), some (.int v2), some (.int v3), some (.ref b2)]) (st' := [.int v3, .int v2, .null, .ref b2, va_rf (y1.2.2.2.1 2)]) k_H_search rfl rfl ?_
                  cases hb9 : (y1.2.2.2.1 2) with
                  | none =>
                    rw [hb9] at hp
                    try dsimp only at hp
                    cases hp
                  | some b9 =>
                    rw [hb9] at hp
                    try dsimp only at hp
                    by_cases g10 : eo y1.2.2.2.2.1 b9 5 = true
                    · rw [if_pos g10] at hp
                      cases hy11 : sp_in sk_K b9 (sp_Sk_seek  (some b2) none v2 v3) y1.2 with
                      | none =>
                        rw [hy11] at hp
                        cases hp
                      | some y11 =>
                        rw [hy11] at hp
                        try dsimp only at hp
                        refine ck_ivO (M' := m_Sk_seek) (As := [.ref b2, .null, .int v2, .int v3]) k_H_search rfl rfl rfl rfl rfl g10 rfl rfl (Nat.le_of_ble_eq_true rfl) (c_in (mk := fun x => .int x) hy11 (fun _ _ _ h => c_sp_Sk_seek h)) (fun hby11 => ?_)
                        cases hp
                        exact ck_ret (v := some (.int _)) k_H_search rfl rfl trivial rfl ⟨rfl, rfl⟩
                    · rw [if_neg g10] at hp
                      cases hp
                · skip
                  rw [if_pos (show (q_H_isMost v3) = 0 from h8)] at hp
                  refine ck_p (L' := [some (.ref a), some (.int v1), some (.int v2), some (.int v3), some (.ref b2)]) (st' := [.int (-1)]) k_H_search rfl rfl ?_
                  cases hp
                  exact ck_ret (v := some (.int _)) k_H_search rfl rfl trivial rfl ⟨rfl, rfl⟩
        · skip
          rw [if_neg (show ¬ (y3 ≤ 4) from h4)] at hp
          refine ck_p (L' := [some (.ref a), some (.int v1), some (.int v2), some (.int v3), some (.ref b2)]) (st' := [.int (-1)]) k_H_search rfl rfl ?_
          cases hp
          exact ck_ret (v := some (.int _)) k_H_search rfl rfl trivial rfl ⟨rfl, rfl⟩
noncomputable def sp_H_differ  (v1 : Int32) (v2 : Int32) (v3 : Int32) (σ : ck_S) : Option (Int32 × ck_S) := (match sp_H_programAt  v1 σ with
  | none => none
  | some y1 => (match sp_H_programAt  v2 y1.2 with
  | none => none
  | some y2 => (match y1.1 with
  | none => some ((-1), y2.2)
  | some b3 => (match y2.1 with
  | none => some ((-1), y2.2)
  | some b4 => (match egI y2.2.2.2.2.1 b3 3 1 with
  | none => none
  | some y5 => (if y5 ≤ 4 then (match egI y2.2.2.2.2.1 b4 3 1 with
  | none => none
  | some y8 => (if y5 = y8 then (match egI y2.2.2.2.2.1 b3 3 2 with
  | none => none
  | some y10 => (match egI y2.2.2.2.2.1 b4 3 2 with
  | none => none
  | some y11 => (if y10 = y11 then (if (q_H_isMost v3) = 0 then some ((-1), y2.2) else (match (y2.2.2.2.1 2) with
  | none => none
  | some b14 => (if eo y2.2.2.2.2.1 b14 5 = true then (match sp_in sk_K b14 (sp_Sk_seek  (some b3) (some b4) (-1) v3) y2.2 with
  | none => none
  | some y16 => some (y16.1, y16.2)) else none))) else some ((-1), y2.2)))) else some ((-1), y2.2))) else some ((-1), y2.2)))))))
theorem c_sp_H_differ  {v1 : Int32} {v2 : Int32} {v3 : Int32} {σ : ck_S} {r : Int32 × ck_S} (hp : sp_H_differ  v1 v2 v3 σ = some r) : ck_Has l F (d + 1205) m_H_differ h_K a A [.ref a, .int v1, .int v2, .int v3] σ (fun w σ' => w = some (.int r.1) ∧ σ' = r.2) := by
  refine ck_meth (k := 2) (L := [some (.ref a), some (.int v1), some (.int v2), some (.int v3), none, none]) pn_H rfl (Nat.le_of_ble_eq_true rfl) ?_
  unfold sp_H_differ at hp
  refine ck_p (L' := [some (.ref a), some (.int v1), some (.int v2), some (.int v3), none, none]) (st' := [.ref a]) k_H_differ rfl rfl ?_
  refine ck_p (L' := [some (.ref a), some (.int v1), some (.int v2), some (.int v3), none, none]) (st' := [.int v1, .ref a]) k_H_differ rfl rfl ?_
  cases hy1 : sp_H_programAt  v1 σ with
  | none =>
    rw [hy1] at hp
    cases hp
  | some y1 =>
    rw [hy1] at hp
    try dsimp only at hp
    refine ck_ivB (M' := m_H_programAt) (As := [.int v1]) k_H_differ rfl rfl rfl rfl rfl rfl rfl (Nat.le_of_ble_eq_true rfl) (c_sp_H_programAt  hy1) (fun hby1 => ?_)
    refine ck_p (L' := [some (.ref a), some (.int v1), some (.int v2), some (.int v3), some (va_rf y1.1), none]) (st' := []) k_H_differ rfl (by cases y1.1 <;> rfl) ?_
    refine ck_p (L' := [some (.ref a), some (.int v1), some (.int v2), some (.int v3), some (va_rf y1.1), none]) (st' := [.ref a]) k_H_differ rfl rfl ?_
    refine ck_p (L' := [some (.ref a), some (.int v1), some (.int v2), some (.int v3), some (va_rf y1.1), none]) (st' := [.int v2, .ref a]) k_H_differ rfl rfl ?_
    cases hy2 : sp_H_programAt  v2 y1.2 with
    | none =>
      rw [hy2] at hp
      cases hp
    | some y2 =>
      rw [hy2] at hp
      try dsimp only at hp
      refine ck_ivB (M' := m_H_programAt) (As := [.int v2]) k_H_differ rfl rfl rfl rfl rfl rfl rfl (Nat.le_of_ble_eq_true rfl) (c_sp_H_programAt  hy2) (fun hby2 => ?_)
      refine ck_p (L' := [some (.ref a), some (.int v1), some (.int v2), some (.int v3), some (va_rf y1.1), some (va_rf y2.1)]) (st' := []) k_H_differ rfl (by cases y1.1 <;> cases y2.1 <;> rfl) ?_
      refine ck_p (L' := [some (.ref a), some (.int v1), some (.int v2), some (.int v3), some (va_rf y1.1), some (va_rf y2.1)]) (st' := [va_rf y1.1]) k_H_differ rfl (by cases y1.1 <;> rfl) ?_
      cases hb3 : y1.1 with
      | none =>
        rw [hb3] at hp
        try dsimp only at hp
        refine ck_j k_H_differ rfl rfl ?_
        refine ck_p (L' := [some (.ref a), some (.int v1), some (.int v2), some (.int v3), some (.null), some (va_rf y2.1)]) (st' := [.int (-1)]) k_H_differ rfl rfl ?_
        cases hp
        exact ck_ret (v := some (.int _)) k_H_differ rfl rfl trivial rfl ⟨rfl, rfl⟩
      | some b3 =>
        rw [hb3] at hp
        try dsimp only at hp
        refine ck_j k_H_differ rfl rfl ?_
        refine ck_p (L' := [some (.ref a), some (.int v1), some (.int v2), some (.int v3), some (.ref b3), some (va_rf y2.1)]) (st' := [va_rf y2.1]) k_H_differ rfl (by cases y2.1 <;> rfl) ?_
        cases hb4 : y2.1 with
        | none =>
          rw [hb4] at hp
          try dsimp only at hp
          refine ck_j k_H_differ rfl rfl ?_
          refine ck_p (L' := [some (.ref a), some (.int v1), some (.int v2), some (.int v3), some (.ref b3), some (.null)]) (st' := [.int (-1)]) k_H_differ rfl rfl ?_
          cases hp
          exact ck_ret (v := some (.int _)) k_H_differ rfl rfl trivial rfl ⟨rfl, rfl⟩
        | some b4 =>
          rw [hb4] at hp
          try dsimp only at hp
          refine ck_j k_H_differ rfl rfl ?_
          refine ck_p (L' := [some (.ref a), some (.int v1), some (.int v2), some (.int v3), some (.ref b3), some (.ref b4)]) (st' := [.ref b3]) k_H_differ rfl rfl ?_
          cases hy5 : egI y2.2.2.2.2.1 b3 3 1 with
          | none =>
            rw [hy5] at hp
            cases hp
          | some y5 =>
            rw [hy5] at hp
            try dsimp only at hp
            refine ck_gE k_H_differ rfl rfl rfl (egI_of hy5) ?_
            refine ck_p (L' := [some (.ref a), some (.int v1), some (.int v2), some (.int v3), some (.ref b3), some (.ref b4)]) (st' := [.int 4, .int y5]) k_H_differ rfl rfl ?_
            refine ck_ic k_H_differ rfl rfl rfl (fun h6 => ?_) (fun h6 => ?_)
            · skip
              rw [if_pos (show y5 ≤ 4 from h6)] at hp
              refine ck_p (L' := [some (.ref a), some (.int v1), some (.int v2), some (.int v3), some (.ref b3), some (.ref b4)]) (st' := [.ref b3]) k_H_differ rfl rfl ?_
              refine ck_gE k_H_differ rfl rfl rfl (egI_of hy5) ?_
              refine ck_p (L' := [some (.ref a), some (.int v1), some (.int v2), some (.int v3), some (.ref b3), some (.ref b4)]) (st' := [.ref b4, .int y5]) k_H_differ rfl rfl ?_
              cases hy8 : egI y2.2.2.2.2.1 b4 3 1 with
              | none =>
                rw [hy8] at hp
                cases hp
              | some y8 =>
                rw [hy8] at hp
                try dsimp only at hp
                refine ck_gE k_H_differ rfl rfl rfl (egI_of hy8) ?_
                refine ck_ic k_H_differ rfl rfl rfl (fun h9 => ?_) (fun h9 => ?_)
                · skip
                  rw [if_neg (show ¬ (y5 = y8) from h9)] at hp
                  refine ck_p (L' := [some (.ref a), some (.int v1), some (.int v2), some (.int v3), some (.ref b3), some (.ref b4)]) (st' := [.int (-1)]) k_H_differ rfl rfl ?_
                  cases hp
                  exact ck_ret (v := some (.int _)) k_H_differ rfl rfl trivial rfl ⟨rfl, rfl⟩
                · skip
                  rw [if_pos (show y5 = y8 from h9)] at hp
                  refine ck_p (L' := [some (.ref a), some (.int v1), some (.int v2), some (.int v3), some (.ref b3), some (.ref b4)]) (st' := [.ref b3]) k_H_differ rfl rfl ?_
                  cases hy10 : egI y2.2.2.2.2.1 b3 3 2 with
                  | none =>
                    rw [hy10] at hp
                    cases hp
                  | some y10 =>
                    rw [hy10] at hp
                    try dsimp only at hp
                    refine ck_gE k_H_differ rfl rfl rfl (egI_of hy10) ?_
                    refine ck_p (L' := [some (.ref a), some (.int v1), some (.int v2), some (.int v3), some (.ref b3), some (.ref b4)]) (st' := [.ref b4, .int y10]) k_H_differ rfl rfl ?_
                    cases hy11 : egI y2.2.2.2.2.1 b4 3 2 with
                    | none =>
                      rw [hy11] at hp
                      cases hp
                    | some y11 =>
                      rw [hy11] at hp
                      try dsimp only at hp
                      refine ck_gE k_H_differ rfl rfl rfl (egI_of hy11) ?_
                      refine ck_ic k_H_differ rfl rfl rfl (fun h12 => ?_) (fun h12 => ?_)
                      · skip
                        rw [if_neg (show ¬ (y10 = y11) from h12)] at hp
                        refine ck_p (L' := [some (.ref a), some (.int v1), some (.int v2), some (.int v3), some (.ref b3), some (.ref b4)]) (st' := [.int (-1)]) k_H_differ rfl rfl ?_
                        cases hp
                        exact ck_ret (v := some (.int _)) k_H_differ rfl rfl trivial rfl ⟨rfl, rfl⟩
                      · skip
                        rw [if_pos (show y10 = y11 from h12)] at hp
                        refine ck_p (L' := [some (.ref a), some (.int v1), some (.int v2), some (.int v3), some (.ref b3), some (.ref b4)]) (st' := [.int v3]) k_H_differ rfl rfl ?_
                        refine ck_isB (M' := m_H_isMost) (As := [.int v3]) k_H_differ rfl rfl rfl rfl rfl rfl (Nat.le_of_ble_eq_true rfl) (c_q_H_isMost rfl) (fun _ => ?_)
                        refine ck_if k_H_differ rfl rfl rfl (fun h13 => ?_) (fun h13 => ?_)
                        · skip
                          rw [if_neg (show ¬ ((q_H_isMost v3) = 0) from h13)] at hp
                          refine ck_p (L' := [some (.ref a), some (.int v1), some (.int v2), some (.int v3), some (.ref b3), some (.ref b4)]) (st' := [.ref a]) k_H_differ rfl rfl ?_
                          refine ck_g k_H_differ rfl rfl rfl rfl ?_
                          refine ck_p (L' := [some (.ref a), some (.int v1), some (.int v2), some (.int v3), some (.ref b3), some (.ref b4)]) (st' := [.ref b3, va_rf (y2.2.2.2.1 2)]) k_H_differ rfl rfl ?_
                          refine ck_p (L' := [some (.ref a), some (.int v1), some (.int v2), some (.int v3), some (.ref b3), some (.ref b4)]) (st' := [.ref b4, .ref b3, va_rf (y2.2.2.2.1 2)]) k_H_differ rfl rfl ?_
                          refine ck_p (L' := [some (.ref a), some (.int v1), some (.int v2), some (.int v3), some (.ref b3), some (.ref b4)]) (st' := [.int (-1), .ref b4, .ref b3, va_rf (y2.2.2.2.1 2)]) k_H_differ rfl rfl ?_
                          refine ck_p (L' := [some (.ref a), some (.int v1), some (.int v2), some (.int v3), some (.ref b3), some (.ref b4)]) (st' := [.int v3, .int (-1), .ref b4, .ref b3, va_rf (y2.2.2.2.1 2)]) k_H_differ rfl rfl ?_
                          cases hb14 : (y2.2.2.2.1 2) with
                          | none =>
                            rw [hb14] at hp
                            try dsimp only at hp
                            cases hp
                          | some b14 =>
                            rw [hb14] at hp
                            try dsimp only at hp
                            by_cases g15 : eo y2.2.2.2.2.1 b14 5 = true
                            · rw [if_pos g15] at hp
                              cases hy16 : sp_in sk_K b14 (sp_Sk_seek  (some b3) (some b4) (-1) v3) y2.2 with
                              | none =>
                                rw [hy16] at hp
                                cases hp
                              | some y16 =>
                                rw [hy16] at hp
                                try dsimp only at hp
                                refine ck_ivO (M' := m_Sk_seek) (As := [.ref b3, .ref b4, .int (-1), .int v3]) k_H_differ rfl rfl rfl rfl rfl g15 rfl rfl (Nat.le_of_ble_eq_true rfl) (c_in (mk := fun x => .int x) hy16 (fun _ _ _ h => c_sp_Sk_seek h)) (fun hby16 => ?_)
                                cases hp
                                exact ck_ret (v := some (.int _)) k_H_differ rfl rfl trivial rfl ⟨rfl, rfl⟩
                            · rw [if_neg g15] at hp
                              cases hp
                        · skip
                          rw [if_pos (show (q_H_isMost v3) = 0 from h13)] at hp
                          refine ck_p (L' := [some (.ref a), some (.int v1), some (.int v2), some (.int v3), some (.ref b3), some (.ref b4)]) (st' := [.int (-1)]) k_H_differ rfl rfl ?_
                          cases hp
                          exact ck_ret (v := some (.int _)) k_H_differ rfl rfl trivial rfl ⟨rfl, rfl⟩
            · skip
              rw [if_neg (show ¬ (y5 ≤ 4) from h6)] at hp
              refine ck_p (L' := [some (.ref a), some (.int v1), some (.int v2), some (.int v3), some (.ref b3), some (.ref b4)]) (st' := [.int (-1)]) k_H_differ rfl rfl ?_
              cases hp
              exact ck_ret (v := some (.int _)) k_H_differ rfl rfl trivial rfl ⟨rfl, rfl⟩
noncomputable def sp_H_run  (v1 : Int32) (σ : ck_S) : Option (Int32 × ck_S) := (match (σ.2.2.1 2) with
  | none => none
  | some b1 => (if eo σ.2.2.2.1 b1 5 = true then (match sp_in sk_K b1 (sp_Sk_told  v1) σ with
  | none => none
  | some y3 => some (y3.1, y3.2)) else none))
theorem c_sp_H_run  {v1 : Int32} {σ : ck_S} {r : Int32 × ck_S} (hp : sp_H_run  v1 σ = some r) : ck_Has l F (d + 1) m_H_run h_K a A [.ref a, .int v1] σ (fun w σ' => w = some (.int r.1) ∧ σ' = r.2) := by
  refine ck_meth (k := 0) (L := [some (.ref a), some (.int v1)]) pn_H rfl (Nat.le_of_ble_eq_true rfl) ?_
  unfold sp_H_run at hp
  refine ck_p (L' := [some (.ref a), some (.int v1)]) (st' := [.ref a]) k_H_run rfl rfl ?_
  refine ck_g k_H_run rfl rfl rfl rfl ?_
  refine ck_p (L' := [some (.ref a), some (.int v1)]) (st' := [.int v1, va_rf (σ.2.2.1 2)]) k_H_run rfl rfl ?_
  cases hb1 : (σ.2.2.1 2) with
  | none =>
    rw [hb1] at hp
    try dsimp only at hp
    cases hp
  | some b1 =>
    rw [hb1] at hp
    try dsimp only at hp
    by_cases g2 : eo σ.2.2.2.1 b1 5 = true
    · rw [if_pos g2] at hp
      cases hy3 : sp_in sk_K b1 (sp_Sk_told  v1) σ with
      | none =>
        rw [hy3] at hp
        cases hp
      | some y3 =>
        rw [hy3] at hp
        try dsimp only at hp
        refine ck_ivO (M' := m_Sk_told) (As := [.int v1]) k_H_run rfl rfl rfl rfl rfl g2 rfl rfl (Nat.le_of_ble_eq_true rfl) (c_in (mk := fun x => .int x) hy3 (fun _ _ _ h => c_sp_Sk_told h)) (fun hby3 => ?_)
        cases hp
        exact ck_ret (v := some (.int _)) k_H_run rfl rfl trivial rfl ⟨rfl, rfl⟩
    · rw [if_neg g2] at hp
      cases hp
noncomputable def sp_H_total  (v1 : Int32) (σ : ck_S) : Option (Int32 × ck_S) := (if v1 = 0 then some ((σ.1 5), σ) else (if v1 = 1 then (match (σ.2.2.1 0) with
  | none => none
  | some b3 => (match egI σ.2.2.2.1 b3 4 6 with
  | none => none
  | some y4 => some (y4, σ))) else (if v1 = 2 then some ((σ.1 6), σ) else some ((-1), σ))))
theorem c_sp_H_total  {v1 : Int32} {σ : ck_S} {r : Int32 × ck_S} (hp : sp_H_total  v1 σ = some r) : ck_Has l F (d) m_H_total h_K a A [.ref a, .int v1] σ (fun w σ' => w = some (.int r.1) ∧ σ' = r.2) := by
  refine ck_meth (k := 0) (L := [some (.ref a), some (.int v1)]) pn_H rfl (Nat.le_of_ble_eq_true rfl) ?_
  unfold sp_H_total at hp
  refine ck_p (L' := [some (.ref a), some (.int v1)]) (st' := [.int v1]) k_H_total rfl rfl ?_
  by_cases h1 : v1 = 0
  · rw [if_pos h1] at hp
    refine ck_tJ (tgt := 28) k_H_total rfl rfl h1 (by decide) (by decide) rfl rfl ?_
    refine ck_p (L' := [some (.ref a), some (.int v1)]) (st' := [.ref a]) k_H_total rfl rfl ?_
    refine ck_g k_H_total rfl rfl rfl rfl ?_
    cases hp
    exact ck_ret (v := some (.int _)) k_H_total rfl rfl trivial rfl ⟨rfl, rfl⟩
  · rw [if_neg h1] at hp
    by_cases h2 : v1 = 1
    · rw [if_pos h2] at hp
      refine ck_tJ (tgt := 33) k_H_total rfl rfl h2 (by decide) (by decide) rfl rfl ?_
      refine ck_p (L' := [some (.ref a), some (.int v1)]) (st' := [.ref a]) k_H_total rfl rfl ?_
      refine ck_g k_H_total rfl rfl rfl rfl ?_
      cases hb3 : (σ.2.2.1 0) with
      | none =>
        rw [hb3] at hp
        try dsimp only at hp
        cases hp
      | some b3 =>
        rw [hb3] at hp
        try dsimp only at hp
        cases hy4 : egI σ.2.2.2.1 b3 4 6 with
        | none =>
          rw [hy4] at hp
          cases hp
        | some y4 =>
          rw [hy4] at hp
          try dsimp only at hp
          refine ck_gE k_H_total rfl rfl rfl (egI_of hy4) ?_
          cases hp
          exact ck_ret (v := some (.int _)) k_H_total rfl rfl trivial rfl ⟨rfl, rfl⟩
    · rw [if_neg h2] at hp
      by_cases h5 : v1 = 2
      · rw [if_pos h5] at hp
        refine ck_tJ (tgt := 41) k_H_total rfl rfl h5 (by decide) (by decide) rfl rfl ?_
        refine ck_p (L' := [some (.ref a), some (.int v1)]) (st' := [.ref a]) k_H_total rfl rfl ?_
        refine ck_g k_H_total rfl rfl rfl rfl ?_
        cases hp
        exact ck_ret (v := some (.int _)) k_H_total rfl rfl trivial rfl ⟨rfl, rfl⟩
      · rw [if_neg h5] at hp
        refine ck_tO (tgt := 46) k_H_total rfl rfl (sw_H_total h1 h2 h5) rfl ?_
        refine ck_p (L' := [some (.ref a), some (.int v1)]) (st' := [.int (-1)]) k_H_total rfl rfl ?_
        cases hp
        exact ck_ret (v := some (.int _)) k_H_total rfl rfl trivial rfl ⟨rfl, rfl⟩
end HS1
