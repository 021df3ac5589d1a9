section PR1
variable {l : Launch} {F : gx_F} {d : Nat} {M M' : gx_M} {a : Nat} {A : Nat → Nat} {pc : Nat} {L : List (Option Value)} {st : List Value} {σ : gm_S} {P : Option Value → gm_S → Prop}
theorem gm_lJ {i : gx_I} {dflt off : Int} {ps : Array (Int × Int)} {x j : Int32} {tgt : Nat} (hM : gx_ok M) (ha : gx_at M.2 pc = some i) (hi : i.1 = .lookupswitch dflt ps) (hp : (ps.toList.zip (ps.toList.drop 1)).all (fun (a, next) => a.1 < next.1) = true) (hx : x = j) (ho : Op.lookupswitch.offset ps.toList dflt j.toInt = off) (ht : (pc : Int) + off = (tgt : Int)) (kk : gm_Go l F d M a A tgt L st σ P) : gm_Go l F d M a A pc L (.int x :: st) σ P := by
  subst hx
  exact gm_lk hM ha hi hp ho ht kk
theorem gm_lO {i : gx_I} {dflt off : Int} {ps : Array (Int × Int)} {x : Int32} {tgt : Nat} (hM : gx_ok M) (ha : gx_at M.2 pc = some i) (hi : i.1 = .lookupswitch dflt ps) (hp : (ps.toList.zip (ps.toList.drop 1)).all (fun (a, next) => a.1 < next.1) = true) (ho : Op.lookupswitch.offset ps.toList dflt x.toInt = off) (ht : (pc : Int) + off = (tgt : Int)) (kk : gm_Go l F d M a A tgt L st σ P) : gm_Go l F d M a A pc L (.int x :: st) σ P := gm_lk hM ha hi hp ho ht kk
theorem sw_nx {x j : Int32} {z : Int} (h : ¬ x = j) (e : j.toInt = z) : ¬ z = x.toInt := fun q => h (Int32.toInt_inj.mp (q.symm.trans e.symm))
theorem sw_Md_readU {x : Int32} (h33 : ¬ x = 33) (h35 : ¬ x = 35) (h36 : ¬ x = 36) (h37 : ¬ x = 37) (h38 : ¬ x = 38) (h40 : ¬ x = 40) (h42 : ¬ x = 42) (h46 : ¬ x = 46) (h48 : ¬ x = 48) (h49 : ¬ x = 49) (h63 : ¬ x = 63) (h64 : ¬ x = 64) (h94 : ¬ x = 94) (h126 : ¬ x = 126) : Op.lookupswitch.offset [(33, 147), (35, 184), (36, 189), (37, 285), (38, 205), (40, 299), (42, 178), (46, 194), (48, 123), (49, 136), (63, 173), (64, 199), (94, 238), (126, 292)] 309 x.toInt = 309 := by
  rw [Op.lookupswitch.offset_cons, if_neg (sw_nx (z := 33) h33 rfl), Op.lookupswitch.offset_cons, if_neg (sw_nx (z := 35) h35 rfl), Op.lookupswitch.offset_cons, if_neg (sw_nx (z := 36) h36 rfl), Op.lookupswitch.offset_cons, if_neg (sw_nx (z := 37) h37 rfl), Op.lookupswitch.offset_cons, if_neg (sw_nx (z := 38) h38 rfl), Op.lookupswitch.offset_cons, if_neg (sw_nx (z := 40) h40 rfl), Op.lookupswitch.offset_cons, if_neg (sw_nx (z := 42) h42 rfl), Op.lookupswitch.offset_cons, if_neg (sw_nx (z := 46) h46 rfl), Op.lookupswitch.offset_cons, if_neg (sw_nx (z := 48) h48 rfl), Op.lookupswitch.offset_cons, if_neg (sw_nx (z := 49) h49 rfl), Op.lookupswitch.offset_cons, if_neg (sw_nx (z := 63) h63 rfl), Op.lookupswitch.offset_cons, if_neg (sw_nx (z := 64) h64 rfl), Op.lookupswitch.offset_cons, if_neg (sw_nx (z := 94) h94 rfl), Op.lookupswitch.offset_cons, if_neg (sw_nx (z := 126) h126 rfl), Op.lookupswitch.offset_nil]
def sp_Md_see   (σ : gm_S) : Option (Int32 × gm_S) := (if (σ.1 3) ≤ (σ.1 27) then some (0, σ) else (if gi (σ.1 27) 500 = true then some (((σ.2 4) (σ.1 27).toNatClampNeg), σ) else none))
theorem c_sp_Md_see   {σ : gm_S} {r : Int32 × gm_S} (hp : sp_Md_see   σ = some r) : gm_Has l F (d) m_Md_see a A [] σ (fun w σ' => w = some (.int r.1) ∧ σ' = r.2) := by
  refine gm_meth (k := 0) (L := [some (.ref a)]) pn_Md rfl (Nat.le_of_ble_eq_true rfl) ?_
  unfold sp_Md_see at hp
  refine gm_p k_Md_see rfl rfl ?_
  refine gm_g k_Md_see rfl rfl rfl rfl ?_
  refine gm_p k_Md_see rfl rfl ?_
  refine gm_g k_Md_see rfl rfl rfl rfl ?_
  refine gm_ic k_Md_see rfl rfl rfl (fun h1 => ?_) (fun h1 => ?_)
  · skip
    rw [if_pos (show (σ.1 3) ≤ (σ.1 27) from h1)] at hp
    refine gm_p k_Md_see rfl rfl ?_
    cases hp
    exact gm_ret (v := some (.int _)) k_Md_see rfl rfl trivial rfl ⟨rfl, rfl⟩
  · skip
    rw [if_neg (show ¬ ((σ.1 3) ≤ (σ.1 27)) from h1)] at hp
    refine gm_p k_Md_see rfl rfl ?_
    refine gm_g k_Md_see rfl rfl rfl rfl ?_
    refine gm_p k_Md_see rfl rfl ?_
    refine gm_g k_Md_see rfl rfl rfl rfl ?_
    by_cases g2 : gi (σ.1 27) 500 = true
    · rw [if_pos g2] at hp
      refine gm_ld k_Md_see rfl rfl (gi_in g2) (by decide) ?_
      refine gm_j k_Md_see rfl rfl ?_
      cases hp
      exact gm_ret (v := some (.int _)) k_Md_see rfl rfl trivial rfl ⟨rfl, rfl⟩
    · rw [if_neg g2] at hp
      cases hp
def sp_Md_note  (v1 : Int32) (v2 : Int32) (σ : gm_S) : Option (gm_S) := (if gi v1 5 = true then (if ((σ.2 30) v1.toNatClampNeg) = (-1) then some (σ.1, (gm_up σ.2 30 (upd (σ.2 30) v1.toNatClampNeg v2))) else (if ((σ.2 30) v1.toNatClampNeg) ≤ v2 then some σ else some (σ.1, (gm_up σ.2 30 (upd (σ.2 30) v1.toNatClampNeg v2))))) else none)
theorem c_sp_Md_note  {v1 : Int32} {v2 : Int32} {σ : gm_S} {r : gm_S} (hp : sp_Md_note  v1 v2 σ = some r) : gm_Has l F (d) m_Md_note a A [.int v1, .int v2] σ (fun w σ' => w = none ∧ σ' = r) := by
  refine gm_meth (k := 0) (L := [some (.ref a), some (.int v1), some (.int v2)]) pn_Md rfl (Nat.le_of_ble_eq_true rfl) ?_
  unfold sp_Md_note at hp
  refine gm_p k_Md_note rfl rfl ?_
  refine gm_g k_Md_note rfl rfl rfl rfl ?_
  refine gm_p k_Md_note rfl rfl ?_
  by_cases g1 : gi v1 5 = true
  · rw [if_pos g1] at hp
    refine gm_ld k_Md_note rfl rfl (gi_in g1) (by decide) ?_
    refine gm_p k_Md_note rfl rfl ?_
    refine gm_ic k_Md_note rfl rfl rfl (fun h2 => ?_) (fun h2 => ?_)
    · skip
      rw [if_pos (show ((σ.2 30) v1.toNatClampNeg) = (-1) from h2)] at hp
      refine gm_p k_Md_note rfl rfl ?_
      refine gm_g k_Md_note rfl rfl rfl rfl ?_
      refine gm_p k_Md_note rfl rfl ?_
      refine gm_p k_Md_note rfl rfl ?_
      refine gm_sto k_Md_note rfl rfl (gi_in g1) (by decide) ?_
      cases hp
      exact gm_ret (v := none) k_Md_note rfl rfl trivial rfl ⟨rfl, rfl⟩
    · skip
      rw [if_neg (show ¬ (((σ.2 30) v1.toNatClampNeg) = (-1)) from h2)] at hp
      refine gm_p k_Md_note rfl rfl ?_
      refine gm_p k_Md_note rfl rfl ?_
      refine gm_g k_Md_note rfl rfl rfl rfl ?_
      refine gm_p k_Md_note rfl rfl ?_
      refine gm_ld k_Md_note rfl rfl (gi_in g1) (by decide) ?_
      refine gm_ic k_Md_note rfl rfl rfl (fun h3 => ?_) (fun h3 => ?_)
      · skip
        rw [if_pos (show ((σ.2 30) v1.toNatClampNeg) ≤ v2 from h3)] at hp
        cases hp
        exact gm_ret (v := none) k_Md_note rfl rfl trivial rfl ⟨rfl, rfl⟩
      · skip
        rw [if_neg (show ¬ (((σ.2 30) v1.toNatClampNeg) ≤ v2) from h3)] at hp
        refine gm_p k_Md_note rfl rfl ?_
        refine gm_g k_Md_note rfl rfl rfl rfl ?_
        refine gm_p k_Md_note rfl rfl ?_
        refine gm_p k_Md_note rfl rfl ?_
        refine gm_sto k_Md_note rfl rfl (gi_in g1) (by decide) ?_
        cases hp
        exact gm_ret (v := none) k_Md_note rfl rfl trivial rfl ⟨rfl, rfl⟩
  · rw [if_neg g1] at hp
    cases hp
def sp_Md_want  (v1 : Int32) (σ : gm_S) : Option (Int32 × gm_S) := (match sp_Md_see   σ with
  | none => none
  | some y1 => (if y1.1 = v1 then some (1, ((upd y1.2.1 27 ((y1.2.1 27) + 1)), y1.2.2)) else some (0, y1.2)))
theorem c_sp_Md_want  {v1 : Int32} {σ : gm_S} {r : Int32 × gm_S} (hp : sp_Md_want  v1 σ = some r) : gm_Has l F (d + 1) m_Md_want a A [.int v1] σ (fun w σ' => w = some (.int r.1) ∧ σ' = r.2) := by
  refine gm_meth (k := 0) (L := [some (.ref a), some (.int v1)]) pn_Md rfl (Nat.le_of_ble_eq_true rfl) ?_
  unfold sp_Md_want at hp
  refine gm_p k_Md_want rfl rfl ?_
  cases hy1 : sp_Md_see   σ with
  | none =>
    rw [hy1] at hp
    cases hp
  | some y1 =>
    rw [hy1] at hp
    dsimp only at hp
    refine gm_ivB (M' := m_Md_see) (As := []) k_Md_want rfl rfl rfl rfl rfl rfl (Nat.le_of_ble_eq_true rfl) (c_sp_Md_see  hy1) (fun hby1 => ?_)
    refine gm_p k_Md_want rfl rfl ?_
    refine gm_ic k_Md_want rfl rfl rfl (fun h2 => ?_) (fun h2 => ?_)
    · skip
      rw [if_pos (show y1.1 = v1 from h2)] at hp
      refine gm_p k_Md_want rfl rfl ?_
      refine gm_p k_Md_want rfl rfl ?_
      refine gm_g k_Md_want rfl rfl rfl rfl ?_
      refine gm_p k_Md_want rfl rfl ?_
      refine gm_p k_Md_want rfl rfl ?_
      refine gm_pt k_Md_want rfl rfl rfl trivial (by decide) rfl ?_
      refine gm_p k_Md_want rfl rfl ?_
      cases hp
      exact gm_ret (v := some (.int _)) k_Md_want rfl rfl (Or.inr rfl) rfl ⟨rfl, rfl⟩
    · skip
      rw [if_neg (show ¬ (y1.1 = v1) from h2)] at hp
      refine gm_p k_Md_want rfl rfl ?_
      cases hp
      exact gm_ret (v := some (.int _)) k_Md_want rfl rfl (Or.inl rfl) rfl ⟨rfl, rfl⟩
def sp_Md_makePart  (v1 : Int32) (v2 : Int32) (v3 : Int32) (σ : gm_S) : Option (Int32 × gm_S) := (if gi (σ.1 19) 2600 = true then (if v1 = 7 then some ((σ.1 19), ((upd σ.1 19 ((σ.1 19) + 1)), (gm_up (gm_up (gm_up (gm_up (gm_up (gm_up (gm_up σ.2 20 (upd (σ.2 20) (σ.1 19).toNatClampNeg v1)) 21 (upd (σ.2 21) (σ.1 19).toNatClampNeg v2)) 22 (upd (σ.2 22) (σ.1 19).toNatClampNeg v3)) 23 (upd (σ.2 23) (σ.1 19).toNatClampNeg (-1))) 24 (upd (σ.2 24) (σ.1 19).toNatClampNeg (-1))) 25 (upd (σ.2 25) (σ.1 19).toNatClampNeg 0)) 26 (upd (σ.2 26) (σ.1 19).toNatClampNeg (1 <<< (v3 &&& 31)))))) else (if v1 = 1 then some ((σ.1 19), ((upd σ.1 19 ((σ.1 19) + 1)), (gm_up (gm_up (gm_up (gm_up (gm_up (gm_up (gm_up σ.2 20 (upd (σ.2 20) (σ.1 19).toNatClampNeg v1)) 21 (upd (σ.2 21) (σ.1 19).toNatClampNeg v2)) 22 (upd (σ.2 22) (σ.1 19).toNatClampNeg v3)) 23 (upd (σ.2 23) (σ.1 19).toNatClampNeg (-1))) 24 (upd (σ.2 24) (σ.1 19).toNatClampNeg (-1))) 25 (upd (σ.2 25) (σ.1 19).toNatClampNeg 0)) 26 (upd (σ.2 26) (σ.1 19).toNatClampNeg 2)))) else (if v1 = 0 then some ((σ.1 19), ((upd σ.1 19 ((σ.1 19) + 1)), (gm_up (gm_up (gm_up (gm_up (gm_up (gm_up (gm_up σ.2 20 (upd (σ.2 20) (σ.1 19).toNatClampNeg v1)) 21 (upd (σ.2 21) (σ.1 19).toNatClampNeg v2)) 22 (upd (σ.2 22) (σ.1 19).toNatClampNeg v3)) 23 (upd (σ.2 23) (σ.1 19).toNatClampNeg (-1))) 24 (upd (σ.2 24) (σ.1 19).toNatClampNeg (-1))) 25 (upd (σ.2 25) (σ.1 19).toNatClampNeg 0)) 26 (upd (σ.2 26) (σ.1 19).toNatClampNeg 1)))) else (if v1 = 2 then some ((σ.1 19), ((upd σ.1 19 ((σ.1 19) + 1)), (gm_up (gm_up (gm_up (gm_up (gm_up (gm_up (gm_up σ.2 20 (upd (σ.2 20) (σ.1 19).toNatClampNeg v1)) 21 (upd (σ.2 21) (σ.1 19).toNatClampNeg v2)) 22 (upd (σ.2 22) (σ.1 19).toNatClampNeg v3)) 23 (upd (σ.2 23) (σ.1 19).toNatClampNeg (-1))) 24 (upd (σ.2 24) (σ.1 19).toNatClampNeg (-1))) 25 (upd (σ.2 25) (σ.1 19).toNatClampNeg 0)) 26 (upd (σ.2 26) (σ.1 19).toNatClampNeg 1)))) else some ((σ.1 19), ((upd σ.1 19 ((σ.1 19) + 1)), (gm_up (gm_up (gm_up (gm_up (gm_up (gm_up (gm_up σ.2 20 (upd (σ.2 20) (σ.1 19).toNatClampNeg v1)) 21 (upd (σ.2 21) (σ.1 19).toNatClampNeg v2)) 22 (upd (σ.2 22) (σ.1 19).toNatClampNeg v3)) 23 (upd (σ.2 23) (σ.1 19).toNatClampNeg (-1))) 24 (upd (σ.2 24) (σ.1 19).toNatClampNeg (-1))) 25 (upd (σ.2 25) (σ.1 19).toNatClampNeg 0)) 26 (upd (σ.2 26) (σ.1 19).toNatClampNeg 0)))))))) else none)
theorem c_sp_Md_makePart  {v1 : Int32} {v2 : Int32} {v3 : Int32} {σ : gm_S} {r : Int32 × gm_S} (hp : sp_Md_makePart  v1 v2 v3 σ = some r) : gm_Has l F (d) m_Md_makePart a A [.int v1, .int v2, .int v3] σ (fun w σ' => w = some (.int r.1) ∧ σ' = r.2) := by
  refine gm_meth (k := 1) (L := [some (.ref a), some (.int v1), some (.int v2), some (.int v3), none]) pn_Md rfl (Nat.le_of_ble_eq_true rfl) ?_
  unfold sp_Md_makePart at hp
  refine gm_p k_Md_makePart rfl rfl ?_
  refine gm_g k_Md_makePart rfl rfl rfl rfl ?_
  refine gm_p (L' := [some (.ref a), some (.int v1), some (.int v2), some (.int v3), some (.int (σ.1 19))]) (st' := []) k_Md_makePart rfl rfl ?_
  refine gm_p k_Md_makePart rfl rfl ?_
  refine gm_p k_Md_makePart rfl rfl ?_
  refine gm_g k_Md_makePart rfl rfl rfl rfl ?_
  refine gm_p k_Md_makePart rfl rfl ?_
  refine gm_p k_Md_makePart rfl rfl ?_
  refine gm_pt k_Md_makePart rfl rfl rfl trivial (by decide) rfl ?_
  refine gm_p k_Md_makePart rfl rfl ?_
  refine gm_g k_Md_makePart rfl rfl rfl rfl ?_
  refine gm_p k_Md_makePart rfl rfl ?_
  refine gm_p k_Md_makePart rfl rfl ?_
  by_cases g1 : gi (σ.1 19) 2600 = true
  · rw [if_pos g1] at hp
    refine gm_sto k_Md_makePart rfl rfl (gi_in g1) (by decide) ?_
    refine gm_p k_Md_makePart rfl rfl ?_
    refine gm_g k_Md_makePart rfl rfl rfl rfl ?_
    refine gm_p k_Md_makePart rfl rfl ?_
    refine gm_p k_Md_makePart rfl rfl ?_
    refine gm_sto k_Md_makePart rfl rfl (gi_in g1) (by decide) ?_
    refine gm_p k_Md_makePart rfl rfl ?_
    refine gm_g k_Md_makePart rfl rfl rfl rfl ?_
    refine gm_p k_Md_makePart rfl rfl ?_
    refine gm_p k_Md_makePart rfl rfl ?_
    refine gm_sto k_Md_makePart rfl rfl (gi_in g1) (by decide) ?_
    refine gm_p k_Md_makePart rfl rfl ?_
    refine gm_g k_Md_makePart rfl rfl rfl rfl ?_
    refine gm_p k_Md_makePart rfl rfl ?_
    refine gm_p k_Md_makePart rfl rfl ?_
    refine gm_sto k_Md_makePart rfl rfl (gi_in g1) (by decide) ?_
    refine gm_p k_Md_makePart rfl rfl ?_
    refine gm_g k_Md_makePart rfl rfl rfl rfl ?_
    refine gm_p k_Md_makePart rfl rfl ?_
    refine gm_p k_Md_makePart rfl rfl ?_
    refine gm_sto k_Md_makePart rfl rfl (gi_in g1) (by decide) ?_
    refine gm_p k_Md_makePart rfl rfl ?_
    refine gm_g k_Md_makePart rfl rfl rfl rfl ?_
    refine gm_p k_Md_makePart rfl rfl ?_
    refine gm_p k_Md_makePart rfl rfl ?_
    refine gm_sto k_Md_makePart rfl rfl (gi_in g1) (by decide) ?_
    refine gm_p k_Md_makePart rfl rfl ?_
    refine gm_g k_Md_makePart rfl rfl rfl rfl ?_
    refine gm_p k_Md_makePart rfl rfl ?_
    refine gm_p k_Md_makePart rfl rfl ?_
    refine gm_p k_Md_makePart rfl rfl ?_
    refine gm_ic k_Md_makePart rfl rfl rfl (fun h2 => ?_) (fun h2 => ?_)
    · skip
      rw [if_neg (show ¬ (v1 = 7) from h2)] at hp
      refine gm_p k_Md_makePart rfl rfl ?_
      refine gm_p k_Md_makePart rfl rfl ?_
      refine gm_ic k_Md_makePart rfl rfl rfl (fun h3 => ?_) (fun h3 => ?_)
      · skip
        rw [if_neg (show ¬ (v1 = 1) from h3)] at hp
        refine gm_p k_Md_makePart rfl rfl ?_
        refine gm_if k_Md_makePart rfl rfl rfl (fun h4 => ?_) (fun h4 => ?_)
        · skip
          rw [if_pos (show v1 = 0 from h4)] at hp
          refine gm_p k_Md_makePart rfl rfl ?_
          refine gm_j k_Md_makePart rfl rfl ?_
          refine gm_sto k_Md_makePart rfl rfl (gi_in g1) (by decide) ?_
          refine gm_p k_Md_makePart rfl rfl ?_
          cases hp
          exact gm_ret (v := some (.int _)) k_Md_makePart rfl rfl trivial rfl ⟨rfl, rfl⟩
        · skip
          rw [if_neg (show ¬ (v1 = 0) from h4)] at hp
          refine gm_p k_Md_makePart rfl rfl ?_
          refine gm_p k_Md_makePart rfl rfl ?_
          refine gm_ic k_Md_makePart rfl rfl rfl (fun h5 => ?_) (fun h5 => ?_)
          · skip
            rw [if_neg (show ¬ (v1 = 2) from h5)] at hp
            refine gm_p k_Md_makePart rfl rfl ?_
            refine gm_sto k_Md_makePart rfl rfl (gi_in g1) (by decide) ?_
            refine gm_p k_Md_makePart rfl rfl ?_
            cases hp
            exact gm_ret (v := some (.int _)) k_Md_makePart rfl rfl trivial rfl ⟨rfl, rfl⟩
          · skip
            rw [if_pos (show v1 = 2 from h5)] at hp
            refine gm_p k_Md_makePart rfl rfl ?_
            refine gm_j k_Md_makePart rfl rfl ?_
            refine gm_sto k_Md_makePart rfl rfl (gi_in g1) (by decide) ?_
            refine gm_p k_Md_makePart rfl rfl ?_
            cases hp
            exact gm_ret (v := some (.int _)) k_Md_makePart rfl rfl trivial rfl ⟨rfl, rfl⟩
      · skip
        rw [if_pos (show v1 = 1 from h3)] at hp
        refine gm_p k_Md_makePart rfl rfl ?_
        refine gm_j k_Md_makePart rfl rfl ?_
        refine gm_sto k_Md_makePart rfl rfl (gi_in g1) (by decide) ?_
        refine gm_p k_Md_makePart rfl rfl ?_
        cases hp
        exact gm_ret (v := some (.int _)) k_Md_makePart rfl rfl trivial rfl ⟨rfl, rfl⟩
    · skip
      rw [if_pos (show v1 = 7 from h2)] at hp
      refine gm_p k_Md_makePart rfl rfl ?_
      refine gm_p k_Md_makePart rfl rfl ?_
      refine gm_p k_Md_makePart rfl rfl ?_
      refine gm_j k_Md_makePart rfl rfl ?_
      refine gm_sto k_Md_makePart rfl rfl (gi_in g1) (by decide) ?_
      refine gm_p k_Md_makePart rfl rfl ?_
      cases hp
      exact gm_ret (v := some (.int _)) k_Md_makePart rfl rfl trivial rfl ⟨rfl, rfl⟩
  · rw [if_neg g1] at hp
    cases hp
def sp_Md_settle_22   : Nat → Int32 → Int32 → Int32 → Int32 → gm_S → Option (gm_S)
  | 0, _, _, _, _, _ => none
  | m + 1, v1, v2, v3, v4, σ => (if v4 = (-1) then (if gi v1 2600 = true then (if ((σ.2 20) v1.toNatClampNeg) = 6 then some (σ.1, (gm_up (gm_up σ.2 25 (upd (σ.2 25) v1.toNatClampNeg v2)) 26 (upd (σ.2 26) v1.toNatClampNeg (q_low v3)))) else (if ((σ.2 20) v1.toNatClampNeg) = 4 then some (σ.1, (gm_up (gm_up σ.2 25 (upd (σ.2 25) v1.toNatClampNeg v2)) 26 (upd (σ.2 26) v1.toNatClampNeg (v3 &&& (-2))))) else some (σ.1, (gm_up (gm_up σ.2 25 (upd (σ.2 25) v1.toNatClampNeg v2)) 26 (upd (σ.2 26) v1.toNatClampNeg v3))))) else none) else (if gi v4 2600 = true then (if gi v1 2600 = true then (if v4 = ((σ.2 23) v1.toNatClampNeg) then sp_Md_settle_22   m v1 (v2 ||| ((σ.2 25) v4.toNatClampNeg)) v3 ((σ.2 24) v4.toNatClampNeg) σ else (if ((σ.2 20) v1.toNatClampNeg) = 3 then (if ((σ.2 20) v1.toNatClampNeg) = 10 then (if ((σ.2 20) v1.toNatClampNeg) = 9 then (if ((q_gr (v3 ||| ((σ.2 26) v4.toNatClampNeg)) ((σ.2 26) v4.toNatClampNeg)) &&& 1) = 1 then sp_Md_settle_22   m v1 (v2 ||| ((σ.2 25) v4.toNatClampNeg)) (((q_gr (v3 ||| ((σ.2 26) v4.toNatClampNeg)) ((σ.2 26) v4.toNatClampNeg)) &&& (-2)) ||| ((σ.2 26) v4.toNatClampNeg)) ((σ.2 24) v4.toNatClampNeg) σ else sp_Md_settle_22   m v1 (v2 ||| ((σ.2 25) v4.toNatClampNeg)) (q_gr (v3 ||| ((σ.2 26) v4.toNatClampNeg)) ((σ.2 26) v4.toNatClampNeg)) ((σ.2 24) v4.toNatClampNeg) σ) else sp_Md_settle_22   m v1 (v2 ||| ((σ.2 25) v4.toNatClampNeg)) (q_gr (v3 ||| ((σ.2 26) v4.toNatClampNeg)) ((σ.2 26) v4.toNatClampNeg)) ((σ.2 24) v4.toNatClampNeg) σ) else (if ((σ.2 20) v1.toNatClampNeg) = 9 then (if ((v3 ||| ((σ.2 26) v4.toNatClampNeg)) &&& 1) = 1 then sp_Md_settle_22   m v1 (v2 ||| ((σ.2 25) v4.toNatClampNeg)) (((v3 ||| ((σ.2 26) v4.toNatClampNeg)) &&& (-2)) ||| ((σ.2 26) v4.toNatClampNeg)) ((σ.2 24) v4.toNatClampNeg) σ else sp_Md_settle_22   m v1 (v2 ||| ((σ.2 25) v4.toNatClampNeg)) (v3 ||| ((σ.2 26) v4.toNatClampNeg)) ((σ.2 24) v4.toNatClampNeg) σ) else sp_Md_settle_22   m v1 (v2 ||| ((σ.2 25) v4.toNatClampNeg)) (v3 ||| ((σ.2 26) v4.toNatClampNeg)) ((σ.2 24) v4.toNatClampNeg) σ)) else (if ((σ.2 20) v1.toNatClampNeg) = 10 then (if ((σ.2 20) v1.toNatClampNeg) = 9 then (if ((q_gr v3 ((σ.2 26) v4.toNatClampNeg)) &&& 1) = 1 then sp_Md_settle_22   m v1 (v2 ||| ((σ.2 25) v4.toNatClampNeg)) (((q_gr v3 ((σ.2 26) v4.toNatClampNeg)) &&& (-2)) ||| ((σ.2 26) v4.toNatClampNeg)) ((σ.2 24) v4.toNatClampNeg) σ else sp_Md_settle_22   m v1 (v2 ||| ((σ.2 25) v4.toNatClampNeg)) (q_gr v3 ((σ.2 26) v4.toNatClampNeg)) ((σ.2 24) v4.toNatClampNeg) σ) else sp_Md_settle_22   m v1 (v2 ||| ((σ.2 25) v4.toNatClampNeg)) (q_gr v3 ((σ.2 26) v4.toNatClampNeg)) ((σ.2 24) v4.toNatClampNeg) σ) else (if ((σ.2 20) v1.toNatClampNeg) = 9 then (if (v3 &&& 1) = 1 then sp_Md_settle_22   m v1 (v2 ||| ((σ.2 25) v4.toNatClampNeg)) ((v3 &&& (-2)) ||| ((σ.2 26) v4.toNatClampNeg)) ((σ.2 24) v4.toNatClampNeg) σ else sp_Md_settle_22   m v1 (v2 ||| ((σ.2 25) v4.toNatClampNeg)) v3 ((σ.2 24) v4.toNatClampNeg) σ) else sp_Md_settle_22   m v1 (v2 ||| ((σ.2 25) v4.toNatClampNeg)) v3 ((σ.2 24) v4.toNatClampNeg) σ)))) else none) else none))
theorem c_sp_Md_settle_22  {r : gm_S} : ∀ (m : Nat) (v1 : Int32) (v2 : Int32) (v3 : Int32) (v4 : Int32) (σ : gm_S), sp_Md_settle_22   m v1 v2 v3 v4 σ = some r → gm_Go l F (d + 1) m_Md_settle a A 22 ([some (.ref a), some (.int v1), some (.int v2), some (.int v3), some (.int v4)]) [] σ (fun w σ' => w = none ∧ σ' = r) := by
  intro m
  induction m with
  | zero => intro v1 v2 v3 v4 σ hp; cases hp
  | succ m ihm =>
    intro v1 v2 v3 v4 σ hp
    unfold sp_Md_settle_22 at hp
    refine gm_p k_Md_settle rfl rfl ?_
    refine gm_p k_Md_settle rfl rfl ?_
    refine gm_ic k_Md_settle rfl rfl rfl (fun h3 => ?_) (fun h3 => ?_)
    · skip
      rw [if_pos (show v4 = (-1) from h3)] at hp
      refine gm_p k_Md_settle rfl rfl ?_
      refine gm_g k_Md_settle rfl rfl rfl rfl ?_
      refine gm_p k_Md_settle rfl rfl ?_
      refine gm_p k_Md_settle rfl rfl ?_
      by_cases g4 : gi v1 2600 = true
      · rw [if_pos g4] at hp
        refine gm_sto k_Md_settle rfl rfl (gi_in g4) (by decide) ?_
        refine gm_p k_Md_settle rfl rfl ?_
        refine gm_g k_Md_settle rfl rfl rfl rfl ?_
        refine gm_p k_Md_settle rfl rfl ?_
        refine gm_p k_Md_settle rfl rfl ?_
        refine gm_g k_Md_settle rfl rfl rfl rfl ?_
        refine gm_p k_Md_settle rfl rfl ?_
        refine gm_ld k_Md_settle rfl rfl (gi_in g4) (by decide) ?_
        refine gm_p k_Md_settle rfl rfl ?_
        refine gm_ic k_Md_settle rfl rfl rfl (fun h5 => ?_) (fun h5 => ?_)
        · skip
          rw [if_neg (show ¬ (((σ.2 20) v1.toNatClampNeg) = 6) from h5)] at hp
          refine gm_p k_Md_settle rfl rfl ?_
          refine gm_g k_Md_settle rfl rfl rfl rfl ?_
          refine gm_p k_Md_settle rfl rfl ?_
          refine gm_ld k_Md_settle rfl rfl (gi_in g4) (by decide) ?_
          refine gm_p k_Md_settle rfl rfl ?_
          refine gm_ic k_Md_settle rfl rfl rfl (fun h6 => ?_) (fun h6 => ?_)
          · skip
            rw [if_neg (show ¬ (((σ.2 20) v1.toNatClampNeg) = 4) from h6)] at hp
            refine gm_p k_Md_settle rfl rfl ?_
            refine gm_sto k_Md_settle rfl rfl (gi_in g4) (by decide) ?_
            cases hp
            exact gm_ret (v := none) k_Md_settle rfl rfl trivial rfl ⟨rfl, rfl⟩
          · skip
            rw [if_pos (show ((σ.2 20) v1.toNatClampNeg) = 4 from h6)] at hp
            refine gm_p k_Md_settle rfl rfl ?_
            refine gm_p k_Md_settle rfl rfl ?_
            refine gm_p k_Md_settle rfl rfl ?_
            refine gm_j k_Md_settle rfl rfl ?_
            refine gm_sto k_Md_settle rfl rfl (gi_in g4) (by decide) ?_
            cases hp
            exact gm_ret (v := none) k_Md_settle rfl rfl trivial rfl ⟨rfl, rfl⟩
        · skip
          rw [if_pos (show ((σ.2 20) v1.toNatClampNeg) = 6 from h5)] at hp
          refine gm_p k_Md_settle rfl rfl ?_
          refine gm_is (M' := m_Md_lowered) (As := [.int v3]) k_Md_settle rfl rfl rfl rfl rfl rfl (Nat.le_of_ble_eq_true rfl) (fun h => c_Md_loweredQ v3 h) ?_
          refine gm_j k_Md_settle rfl rfl ?_
          refine gm_sto k_Md_settle rfl rfl (gi_in g4) (by decide) ?_
          cases hp
          exact gm_ret (v := none) k_Md_settle rfl rfl trivial rfl ⟨rfl, rfl⟩
      · rw [if_neg g4] at hp
        cases hp
    · skip
      rw [if_neg (show ¬ (v4 = (-1)) from h3)] at hp
      refine gm_p k_Md_settle rfl rfl ?_
      refine gm_p k_Md_settle rfl rfl ?_
      refine gm_g k_Md_settle rfl rfl rfl rfl ?_
      refine gm_p k_Md_settle rfl rfl ?_
      by_cases g7 : gi v4 2600 = true
      · rw [if_pos g7] at hp
        refine gm_ld k_Md_settle rfl rfl (gi_in g7) (by decide) ?_
        refine gm_p k_Md_settle rfl rfl ?_
        refine gm_p (L' := [some (.ref a), some (.int v1), some (.int (v2 ||| ((σ.2 25) v4.toNatClampNeg))), some (.int v3), some (.int v4)]) (st' := []) k_Md_settle rfl rfl ?_
        refine gm_p k_Md_settle rfl rfl ?_
        refine gm_p k_Md_settle rfl rfl ?_
        refine gm_g k_Md_settle rfl rfl rfl rfl ?_
        refine gm_p k_Md_settle rfl rfl ?_
        by_cases g8 : gi v1 2600 = true
        · rw [if_pos g8] at hp
          refine gm_ld k_Md_settle rfl rfl (gi_in g8) (by decide) ?_
          refine gm_ic k_Md_settle rfl rfl rfl (fun h9 => ?_) (fun h9 => ?_)
          · skip
            rw [if_neg (show ¬ (v4 = ((σ.2 23) v1.toNatClampNeg)) from h9)] at hp
            refine gm_p k_Md_settle rfl rfl ?_
            refine gm_g k_Md_settle rfl rfl rfl rfl ?_
            refine gm_p k_Md_settle rfl rfl ?_
            refine gm_ld k_Md_settle rfl rfl (gi_in g8) (by decide) ?_
            refine gm_p k_Md_settle rfl rfl ?_
            refine gm_ic k_Md_settle rfl rfl rfl (fun h10 => ?_) (fun h10 => ?_)
            · skip
              rw [if_neg (show ¬ (((σ.2 20) v1.toNatClampNeg) = 3) from h10)] at hp
              refine gm_p k_Md_settle rfl rfl ?_
              refine gm_g k_Md_settle rfl rfl rfl rfl ?_
              refine gm_p k_Md_settle rfl rfl ?_
              refine gm_ld k_Md_settle rfl rfl (gi_in g8) (by decide) ?_
              refine gm_p k_Md_settle rfl rfl ?_
              refine gm_ic k_Md_settle rfl rfl rfl (fun h11 => ?_) (fun h11 => ?_)
              · skip
                rw [if_neg (show ¬ (((σ.2 20) v1.toNatClampNeg) = 10) from h11)] at hp
                refine gm_p k_Md_settle rfl rfl ?_
                refine gm_g k_Md_settle rfl rfl rfl rfl ?_
                refine gm_p k_Md_settle rfl rfl ?_
                refine gm_ld k_Md_settle rfl rfl (gi_in g8) (by decide) ?_
                refine gm_p k_Md_settle rfl rfl ?_
                refine gm_ic k_Md_settle rfl rfl rfl (fun h12 => ?_) (fun h12 => ?_)
                · skip
                  rw [if_neg (show ¬ (((σ.2 20) v1.toNatClampNeg) = 9) from h12)] at hp
                  refine gm_p k_Md_settle rfl rfl ?_
                  refine gm_g k_Md_settle rfl rfl rfl rfl ?_
                  refine gm_p k_Md_settle rfl rfl ?_
                  refine gm_ld k_Md_settle rfl rfl (gi_in g7) (by decide) ?_
                  refine gm_p (L' := [some (.ref a), some (.int v1), some (.int (v2 ||| ((σ.2 25) v4.toNatClampNeg))), some (.int v3), some (.int ((σ.2 24) v4.toNatClampNeg))]) (st' := []) k_Md_settle rfl rfl ?_
                  refine gm_j k_Md_settle rfl rfl ?_
                  exact ihm _ _ _ _ _ hp
                · skip
                  rw [if_pos (show ((σ.2 20) v1.toNatClampNeg) = 9 from h12)] at hp
                  refine gm_p k_Md_settle rfl rfl ?_
                  refine gm_p k_Md_settle rfl rfl ?_
                  refine gm_p k_Md_settle rfl rfl ?_
                  refine gm_p k_Md_settle rfl rfl ?_
                  refine gm_ic k_Md_settle rfl rfl rfl (fun h13 => ?_) (fun h13 => ?_)
                  · skip
                    rw [if_neg (show ¬ ((v3 &&& 1) = 1) from h13)] at hp
                    refine gm_p k_Md_settle rfl rfl ?_
                    refine gm_g k_Md_settle rfl rfl rfl rfl ?_
                    refine gm_p k_Md_settle rfl rfl ?_
                    refine gm_ld k_Md_settle rfl rfl (gi_in g7) (by decide) ?_
                    refine gm_p (L' := [some (.ref a), some (.int v1), some (.int (v2 ||| ((σ.2 25) v4.toNatClampNeg))), some (.int v3), some (.int ((σ.2 24) v4.toNatClampNeg))]) (st' := []) k_Md_settle rfl rfl ?_
                    refine gm_j k_Md_settle rfl rfl ?_
                    exact ihm _ _ _ _ _ hp
                  · skip
                    rw [if_pos (show (v3 &&& 1) = 1 from h13)] at hp
                    refine gm_p k_Md_settle rfl rfl ?_
                    refine gm_p k_Md_settle rfl rfl ?_
                    refine gm_p k_Md_settle rfl rfl ?_
                    refine gm_p k_Md_settle rfl rfl ?_
                    refine gm_g k_Md_settle rfl rfl rfl rfl ?_
                    refine gm_p k_Md_settle rfl rfl ?_
                    refine gm_ld k_Md_settle rfl rfl (gi_in g7) (by decide) ?_
                    refine gm_p k_Md_settle rfl rfl ?_
                    refine gm_p (L' := [some (.ref a), some (.int v1), some (.int (v2 ||| ((σ.2 25) v4.toNatClampNeg))), some (.int ((v3 &&& (-2)) ||| ((σ.2 26) v4.toNatClampNeg))), some (.int v4)]) (st' := []) k_Md_settle rfl rfl ?_
                    refine gm_p k_Md_settle rfl rfl ?_
                    refine gm_g k_Md_settle rfl rfl rfl rfl ?_
                    refine gm_p k_Md_settle rfl rfl ?_
                    refine gm_ld k_Md_settle rfl rfl (gi_in g7) (by decide) ?_
                    refine gm_p (L' := [some (.ref a), some (.int v1), some (.int (v2 ||| ((σ.2 25) v4.toNatClampNeg))), some (.int ((v3 &&& (-2)) ||| ((σ.2 26) v4.toNatClampNeg))), some (.int ((σ.2 24) v4.toNatClampNeg))]) (st' := []) k_Md_settle rfl rfl ?_
                    refine gm_j k_Md_settle rfl rfl ?_
                    exact ihm _ _ _ _ _ hp
              · skip
                rw [if_pos (show ((σ.2 20) v1.toNatClampNeg) = 10 from h11)] at hp
                refine gm_p k_Md_settle rfl rfl ?_
                refine gm_p k_Md_settle rfl rfl ?_
                refine gm_g k_Md_settle rfl rfl rfl rfl ?_
                refine gm_p k_Md_settle rfl rfl ?_
                refine gm_ld k_Md_settle rfl rfl (gi_in g7) (by decide) ?_
                refine gm_is (M' := m_Md_greater) (As := [.int v3, .int ((σ.2 26) v4.toNatClampNeg)]) k_Md_settle rfl rfl rfl rfl rfl rfl (Nat.le_of_ble_eq_true rfl) (fun h => c_Md_greaterQ v3 ((σ.2 26) v4.toNatClampNeg) h) ?_
                refine gm_p (L' := [some (.ref a), some (.int v1), some (.int (v2 ||| ((σ.2 25) v4.toNatClampNeg))), some (.int (q_gr v3 ((σ.2 26) v4.toNatClampNeg))), some (.int v4)]) (st' := []) k_Md_settle rfl rfl ?_
                refine gm_p k_Md_settle rfl rfl ?_
                refine gm_g k_Md_settle rfl rfl rfl rfl ?_
                refine gm_p k_Md_settle rfl rfl ?_
                refine gm_ld k_Md_settle rfl rfl (gi_in g8) (by decide) ?_
                refine gm_p k_Md_settle rfl rfl ?_
                refine gm_ic k_Md_settle rfl rfl rfl (fun h14 => ?_) (fun h14 => ?_)
                · skip
                  rw [if_neg (show ¬ (((σ.2 20) v1.toNatClampNeg) = 9) from h14)] at hp
                  refine gm_p k_Md_settle rfl rfl ?_
                  refine gm_g k_Md_settle rfl rfl rfl rfl ?_
                  refine gm_p k_Md_settle rfl rfl ?_
                  refine gm_ld k_Md_settle rfl rfl (gi_in g7) (by decide) ?_
                  refine gm_p (L' := [some (.ref a), some (.int v1), some (.int (v2 ||| ((σ.2 25) v4.toNatClampNeg))), some (.int (q_gr v3 ((σ.2 26) v4.toNatClampNeg))), some (.int ((σ.2 24) v4.toNatClampNeg))]) (st' := []) k_Md_settle rfl rfl ?_
                  refine gm_j k_Md_settle rfl rfl ?_
                  exact ihm _ _ _ _ _ hp
                · skip
                  rw [if_pos (show ((σ.2 20) v1.toNatClampNeg) = 9 from h14)] at hp
                  refine gm_p k_Md_settle rfl rfl ?_
                  refine gm_p k_Md_settle rfl rfl ?_
                  refine gm_p k_Md_settle rfl rfl ?_
                  refine gm_p k_Md_settle rfl rfl ?_
                  refine gm_ic k_Md_settle rfl rfl rfl (fun h15 => ?_) (fun h15 => ?_)
                  · skip
                    rw [if_neg (show ¬ (((q_gr v3 ((σ.2 26) v4.toNatClampNeg)) &&& 1) = 1) from h15)] at hp
                    refine gm_p k_Md_settle rfl rfl ?_
                    refine gm_g k_Md_settle rfl rfl rfl rfl ?_
                    refine gm_p k_Md_settle rfl rfl ?_
                    refine gm_ld k_Md_settle rfl rfl (gi_in g7) (by decide) ?_
                    refine gm_p (L' := [some (.ref a), some (.int v1), some (.int (v2 ||| ((σ.2 25) v4.toNatClampNeg))), some (.int (q_gr v3 ((σ.2 26) v4.toNatClampNeg))), some (.int ((σ.2 24) v4.toNatClampNeg))]) (st' := []) k_Md_settle rfl rfl ?_
                    refine gm_j k_Md_settle rfl rfl ?_
                    exact ihm _ _ _ _ _ hp
                  · skip
                    rw [if_pos (show ((q_gr v3 ((σ.2 26) v4.toNatClampNeg)) &&& 1) = 1 from h15)] at hp
                    refine gm_p k_Md_settle rfl rfl ?_
                    refine gm_p k_Md_settle rfl rfl ?_
                    refine gm_p k_Md_settle rfl rfl ?_
                    refine gm_p k_Md_settle rfl rfl ?_
                    refine gm_g k_Md_settle rfl rfl rfl rfl ?_
                    refine gm_p k_Md_settle rfl rfl ?_
                    refine gm_ld k_Md_settle rfl rfl (gi_in g7) (by decide) ?_
                    refine gm_p k_Md_settle rfl rfl ?_
                    refine gm_p (L' := [some (.ref a), some (.int v1), some (.int (v2 ||| ((σ.2 25) v4.toNatClampNeg))), some (.int (((q_gr v3 ((σ.2 26) v4.toNatClampNeg)) &&& (-2)) ||| ((σ.2 26) v4.toNatClampNeg))), some (.int v4)]) (st' := []) k_Md_settle rfl rfl ?_
                    refine gm_p k_Md_settle rfl rfl ?_
                    refine gm_g k_Md_settle rfl rfl rfl rfl ?_
                    refine gm_p k_Md_settle rfl rfl ?_
                    refine gm_ld k_Md_settle rfl rfl (gi_in g7) (by decide) ?_
                    refine gm_p (L' := [some (.ref a), some (.int v1), some (.int (v2 ||| ((σ.2 25) v4.toNatClampNeg))), some (.int (((q_gr v3 ((σ.2 26) v4.toNatClampNeg)) &&& (-2)) ||| ((σ.2 26) v4.toNatClampNeg))), some (.int ((σ.2 24) v4.toNatClampNeg))]) (st' := []) k_Md_settle rfl rfl ?_
                    refine gm_j k_Md_settle rfl rfl ?_
                    exact ihm _ _ _ _ _ hp
            · skip
              rw [if_pos (show ((σ.2 20) v1.toNatClampNeg) = 3 from h10)] at hp
              refine gm_p k_Md_settle rfl rfl ?_
              refine gm_p k_Md_settle rfl rfl ?_
              refine gm_g k_Md_settle rfl rfl rfl rfl ?_
              refine gm_p k_Md_settle rfl rfl ?_
              refine gm_ld k_Md_settle rfl rfl (gi_in g7) (by decide) ?_
              refine gm_p k_Md_settle rfl rfl ?_
              refine gm_p (L' := [some (.ref a), some (.int v1), some (.int (v2 ||| ((σ.2 25) v4.toNatClampNeg))), some (.int (v3 ||| ((σ.2 26) v4.toNatClampNeg))), some (.int v4)]) (st' := []) k_Md_settle rfl rfl ?_
              refine gm_p k_Md_settle rfl rfl ?_
              refine gm_g k_Md_settle rfl rfl rfl rfl ?_
              refine gm_p k_Md_settle rfl rfl ?_
              refine gm_ld k_Md_settle rfl rfl (gi_in g8) (by decide) ?_
              refine gm_p k_Md_settle rfl rfl ?_
              refine gm_ic k_Md_settle rfl rfl rfl (fun h16 => ?_) (fun h16 => ?_)
              · skip
                rw [if_neg (show ¬ (((σ.2 20) v1.toNatClampNeg) = 10) from h16)] at hp
                refine gm_p k_Md_settle rfl rfl ?_
                refine gm_g k_Md_settle rfl rfl rfl rfl ?_
                refine gm_p k_Md_settle rfl rfl ?_
                refine gm_ld k_Md_settle rfl rfl (gi_in g8) (by decide) ?_
                refine gm_p k_Md_settle rfl rfl ?_
                refine gm_ic k_Md_settle rfl rfl rfl (fun h17 => ?_) (fun h17 => ?_)
                · skip
                  rw [if_neg (show ¬ (((σ.2 20) v1.toNatClampNeg) = 9) from h17)] at hp
                  refine gm_p k_Md_settle rfl rfl ?_
                  refine gm_g k_Md_settle rfl rfl rfl rfl ?_
                  refine gm_p k_Md_settle rfl rfl ?_
                  refine gm_ld k_Md_settle rfl rfl (gi_in g7) (by decide) ?_
                  refine gm_p (L' := [some (.ref a), some (.int v1), some (.int (v2 ||| ((σ.2 25) v4.toNatClampNeg))), some (.int (v3 ||| ((σ.2 26) v4.toNatClampNeg))), some (.int ((σ.2 24) v4.toNatClampNeg))]) (st' := []) k_Md_settle rfl rfl ?_
                  refine gm_j k_Md_settle rfl rfl ?_
                  exact ihm _ _ _ _ _ hp
                · skip
                  rw [if_pos (show ((σ.2 20) v1.toNatClampNeg) = 9 from h17)] at hp
                  refine gm_p k_Md_settle rfl rfl ?_
                  refine gm_p k_Md_settle rfl rfl ?_
                  refine gm_p k_Md_settle rfl rfl ?_
                  refine gm_p k_Md_settle rfl rfl ?_
                  refine gm_ic k_Md_settle rfl rfl rfl (fun h18 => ?_) (fun h18 => ?_)
                  · skip
                    rw [if_neg (show ¬ (((v3 ||| ((σ.2 26) v4.toNatClampNeg)) &&& 1) = 1) from h18)] at hp
                    refine gm_p k_Md_settle rfl rfl ?_
                    refine gm_g k_Md_settle rfl rfl rfl rfl ?_
                    refine gm_p k_Md_settle rfl rfl ?_
                    refine gm_ld k_Md_settle rfl rfl (gi_in g7) (by decide) ?_
                    refine gm_p (L' := [some (.ref a), some (.int v1), some (.int (v2 ||| ((σ.2 25) v4.toNatClampNeg))), some (.int (v3 ||| ((σ.2 26) v4.toNatClampNeg))), some (.int ((σ.2 24) v4.toNatClampNeg))]) (st' := []) k_Md_settle rfl rfl ?_
                    refine gm_j k_Md_settle rfl rfl ?_
                    exact ihm _ _ _ _ _ hp
                  · skip
                    rw [if_pos (show ((v3 ||| ((σ.2 26) v4.toNatClampNeg)) &&& 1) = 1 from h18)] at hp
                    refine gm_p k_Md_settle rfl rfl ?_
                    refine gm_p k_Md_settle rfl rfl ?_
                    refine gm_p k_Md_settle rfl rfl ?_
                    refine gm_p k_Md_settle rfl rfl ?_
                    refine gm_g k_Md_settle rfl rfl rfl rfl ?_
                    refine gm_p k_Md_settle rfl rfl ?_
                    refine gm_ld k_Md_settle rfl rfl (gi_in g7) (by decide) ?_
                    refine gm_p k_Md_settle rfl rfl ?_
                    refine gm_p (L' := [some (.ref a), some (.int v1), some (.int (v2 ||| ((σ.2 25) v4.toNatClampNeg))), some (.int (((v3 ||| ((σ.2 26) v4.toNatClampNeg)) &&& (-2)) ||| ((σ.2 26) v4.toNatClampNeg))), some (.int v4)]) (st' := []) k_Md_settle rfl rfl ?_
                    refine gm_p k_Md_settle rfl rfl ?_
                    refine gm_g k_Md_settle rfl rfl rfl rfl ?_
                    refine gm_p k_Md_settle rfl rfl ?_
                    refine gm_ld k_Md_settle rfl rfl (gi_in g7) (by decide) ?_
                    refine gm_p (L' := [some (.ref a), some (.int v1), some (.int (v2 ||| ((σ.2 25) v4.toNatClampNeg))), some (.int (((v3 ||| ((σ.2 26) v4.toNatClampNeg)) &&& (-2)) ||| ((σ.2 26) v4.toNatClampNeg))), some (.int ((σ.2 24) v4.toNatClampNeg))]) (st' := []) k_Md_settle rfl rfl ?_
                    refine gm_j k_Md_settle rfl rfl ?_
                    exact ihm _ _ _ _ _ hp
              · skip
                rw [if_pos (show ((σ.2 20) v1.toNatClampNeg) = 10 from h16)] at hp
                refine gm_p k_Md_settle rfl rfl ?_
                refine gm_p k_Md_settle rfl rfl ?_
                refine gm_g k_Md_settle rfl rfl rfl rfl ?_
                refine gm_p k_Md_settle rfl rfl ?_
                refine gm_ld k_Md_settle rfl rfl (gi_in g7) (by decide) ?_
                refine gm_is (M' := m_Md_greater) (As := [.int (v3 ||| ((σ.2 26) v4.toNatClampNeg)), .int ((σ.2 26) v4.toNatClampNeg)]) k_Md_settle rfl rfl rfl rfl rfl rfl (Nat.le_of_ble_eq_true rfl) (fun h => c_Md_greaterQ (v3 ||| ((σ.2 26) v4.toNatClampNeg)) ((σ.2 26) v4.toNatClampNeg) h) ?_
                refine gm_p (L' := [some (.ref a), some (.int v1), some (.int (v2 ||| ((σ.2 25) v4.toNatClampNeg))), some (.int (q_gr (v3 ||| ((σ.2 26) v4.toNatClampNeg)) ((σ.2 26) v4.toNatClampNeg))), some (.int v4)]) (st' := []) k_Md_settle rfl rfl ?_
                refine gm_p k_Md_settle rfl rfl ?_
                refine gm_g k_Md_settle rfl rfl rfl rfl ?_
                refine gm_p k_Md_settle rfl rfl ?_
                refine gm_ld k_Md_settle rfl rfl (gi_in g8) (by decide) ?_
                refine gm_p k_Md_settle rfl rfl ?_
                refine gm_ic k_Md_settle rfl rfl rfl (fun h19 => ?_) (fun h19 => ?_)
                · skip
                  rw [if_neg (show ¬ (((σ.2 20) v1.toNatClampNeg) = 9) from h19)] at hp
                  refine gm_p k_Md_settle rfl rfl ?_
                  refine gm_g k_Md_settle rfl rfl rfl rfl ?_
                  refine gm_p k_Md_settle rfl rfl ?_
                  refine gm_ld k_Md_settle rfl rfl (gi_in g7) (by decide) ?_
                  refine gm_p (L' := [some (.ref a), some (.int v1), some (.int (v2 ||| ((σ.2 25) v4.toNatClampNeg))), some (.int (q_gr (v3 ||| ((σ.2 26) v4.toNatClampNeg)) ((σ.2 26) v4.toNatClampNeg))), some (.int ((σ.2 24) v4.toNatClampNeg))]) (st' := []) k_Md_settle rfl rfl ?_
                  refine gm_j k_Md_settle rfl rfl ?_
                  exact ihm _ _ _ _ _ hp
                · skip
                  rw [if_pos (show ((σ.2 20) v1.toNatClampNeg) = 9 from h19)] at hp
                  refine gm_p k_Md_settle rfl rfl ?_
                  refine gm_p k_Md_settle rfl rfl ?_
                  refine gm_p k_Md_settle rfl rfl ?_
                  refine gm_p k_Md_settle rfl rfl ?_
                  refine gm_ic k_Md_settle rfl rfl rfl (fun h20 => ?_) (fun h20 => ?_)
                  · skip
                    rw [if_neg (show ¬ (((q_gr (v3 ||| ((σ.2 26) v4.toNatClampNeg)) ((σ.2 26) v4.toNatClampNeg)) &&& 1) = 1) from h20)] at hp
                    refine gm_p k_Md_settle rfl rfl ?_
                    refine gm_g k_Md_settle rfl rfl rfl rfl ?_
                    refine gm_p k_Md_settle rfl rfl ?_
                    refine gm_ld k_Md_settle rfl rfl (gi_in g7) (by decide) ?_
                    refine gm_p (L' := [some (.ref a), some (.int v1), some (.int (v2 ||| ((σ.2 25) v4.toNatClampNeg))), some (.int (q_gr (v3 ||| ((σ.2 26) v4.toNatClampNeg)) ((σ.2 26) v4.toNatClampNeg))), some (.int ((σ.2 24) v4.toNatClampNeg))]) (st' := []) k_Md_settle rfl rfl ?_
                    refine gm_j k_Md_settle rfl rfl ?_
                    exact ihm _ _ _ _ _ hp
                  · skip
                    rw [if_pos (show ((q_gr (v3 ||| ((σ.2 26) v4.toNatClampNeg)) ((σ.2 26) v4.toNatClampNeg)) &&& 1) = 1 from h20)] at hp
                    refine gm_p k_Md_settle rfl rfl ?_
                    refine gm_p k_Md_settle rfl rfl ?_
                    refine gm_p k_Md_settle rfl rfl ?_
                    refine gm_p k_Md_settle rfl rfl ?_
                    refine gm_g k_Md_settle rfl rfl rfl rfl ?_
                    refine gm_p k_Md_settle rfl rfl ?_
                    refine gm_ld k_Md_settle rfl rfl (gi_in g7) (by decide) ?_
                    refine gm_p k_Md_settle rfl rfl ?_
                    refine gm_p (L' := [some (.ref a), some (.int v1), some (.int (v2 ||| ((σ.2 25) v4.toNatClampNeg))), some (.int (((q_gr (v3 ||| ((σ.2 26) v4.toNatClampNeg)) ((σ.2 26) v4.toNatClampNeg)) &&& (-2)) ||| ((σ.2 26) v4.toNatClampNeg))), some (.int v4)]) (st' := []) k_Md_settle rfl rfl ?_
                    refine gm_p k_Md_settle rfl rfl ?_
                    refine gm_g k_Md_settle rfl rfl rfl rfl ?_
                    refine gm_p k_Md_settle rfl rfl ?_
                    refine gm_ld k_Md_settle rfl rfl (gi_in g7) (by decide) ?_
                    refine gm_p (L' := [some (.ref a), some (.int v1), some (.int (v2 ||| ((σ.2 25) v4.toNatClampNeg))), some (.int (((q_gr (v3 ||| ((σ.2 26) v4.toNatClampNeg)) ((σ.2 26) v4.toNatClampNeg)) &&& (-2)) ||| ((σ.2 26) v4.toNatClampNeg))), some (.int ((σ.2 24) v4.toNatClampNeg))]) (st' := []) k_Md_settle rfl rfl ?_
                    refine gm_j k_Md_settle rfl rfl ?_
                    exact ihm _ _ _ _ _ hp
          · skip
            rw [if_pos (show v4 = ((σ.2 23) v1.toNatClampNeg) from h9)] at hp
            refine gm_j k_Md_settle rfl rfl ?_
            refine gm_p k_Md_settle rfl rfl ?_
            refine gm_g k_Md_settle rfl rfl rfl rfl ?_
            refine gm_p k_Md_settle rfl rfl ?_
            refine gm_ld k_Md_settle rfl rfl (gi_in g7) (by decide) ?_
            refine gm_p (L' := [some (.ref a), some (.int v1), some (.int (v2 ||| ((σ.2 25) v4.toNatClampNeg))), some (.int v3), some (.int ((σ.2 24) v4.toNatClampNeg))]) (st' := []) k_Md_settle rfl rfl ?_
            refine gm_j k_Md_settle rfl rfl ?_
            exact ihm _ _ _ _ _ hp
        · rw [if_neg g8] at hp
          cases hp
      · rw [if_neg g7] at hp
        cases hp
def sp_Md_settle  (v1 : Int32) (σ : gm_S) : Option (gm_S) := (if gi v1 2600 = true then (if gi ((σ.2 23) v1.toNatClampNeg) 2600 = true then sp_Md_settle_22   2601 v1 0 ((σ.2 26) ((σ.2 23) v1.toNatClampNeg).toNatClampNeg) ((σ.2 23) v1.toNatClampNeg) σ else none) else none)
theorem c_sp_Md_settle  {v1 : Int32} {σ : gm_S} {r : gm_S} (hp : sp_Md_settle  v1 σ = some r) : gm_Has l F (d + 1) m_Md_settle a A [.int v1] σ (fun w σ' => w = none ∧ σ' = r) := by
  refine gm_meth (k := 3) (L := [some (.ref a), some (.int v1), none, none, none]) pn_Md rfl (Nat.le_of_ble_eq_true rfl) ?_
  unfold sp_Md_settle at hp
  refine gm_p k_Md_settle rfl rfl ?_
  refine gm_p (L' := [some (.ref a), some (.int v1), some (.int 0), none, none]) (st' := []) k_Md_settle rfl rfl ?_
  refine gm_p k_Md_settle rfl rfl ?_
  refine gm_g k_Md_settle rfl rfl rfl rfl ?_
  refine gm_p k_Md_settle rfl rfl ?_
  refine gm_g k_Md_settle rfl rfl rfl rfl ?_
  refine gm_p k_Md_settle rfl rfl ?_
  by_cases g1 : gi v1 2600 = true
  · rw [if_pos g1] at hp
    refine gm_ld k_Md_settle rfl rfl (gi_in g1) (by decide) ?_
    by_cases g2 : gi ((σ.2 23) v1.toNatClampNeg) 2600 = true
    · rw [if_pos g2] at hp
      refine gm_ld k_Md_settle rfl rfl (gi_in g2) (by decide) ?_
      refine gm_p (L' := [some (.ref a), some (.int v1), some (.int 0), some (.int ((σ.2 26) ((σ.2 23) v1.toNatClampNeg).toNatClampNeg)), none]) (st' := []) k_Md_settle rfl rfl ?_
      refine gm_p k_Md_settle rfl rfl ?_
      refine gm_g k_Md_settle rfl rfl rfl rfl ?_
      refine gm_p k_Md_settle rfl rfl ?_
      refine gm_ld k_Md_settle rfl rfl (gi_in g1) (by decide) ?_
      refine gm_p (L' := [some (.ref a), some (.int v1), some (.int 0), some (.int ((σ.2 26) ((σ.2 23) v1.toNatClampNeg).toNatClampNeg)), some (.int ((σ.2 23) v1.toNatClampNeg))]) (st' := []) k_Md_settle rfl rfl ?_
      exact c_sp_Md_settle_22   _ _ _ _ _ _ hp
    · rw [if_neg g2] at hp
      cases hp
  · rw [if_neg g1] at hp
    cases hp
def sp_Md_with  (v1 : Int32) (v2 : Int32) (v3 : Int32) (v4 : Int32) (σ : gm_S) : Option (Int32 × gm_S) := (match sp_Md_makePart  v1 v2 0 σ with
  | none => none
  | some y1 => (if gi y1.1 2600 = true then (if gi v3 2600 = true then (if v4 = (-1) then (match sp_Md_settle  y1.1 (y1.2.1, (gm_up (gm_up y1.2.2 23 (upd (y1.2.2 23) y1.1.toNatClampNeg v3)) 24 (upd (y1.2.2 24) v3.toNatClampNeg v4))) with
  | none => none
  | some y5 => some (y1.1, y5)) else (if gi v4 2600 = true then (match sp_Md_settle  y1.1 (y1.2.1, (gm_up (gm_up (gm_up y1.2.2 23 (upd (y1.2.2 23) y1.1.toNatClampNeg v3)) 24 (upd (y1.2.2 24) v3.toNatClampNeg v4)) 24 (upd (upd (y1.2.2 24) v3.toNatClampNeg v4) v4.toNatClampNeg (-1)))) with
  | none => none
  | some y7 => some (y1.1, y7)) else none)) else none) else none))
theorem c_sp_Md_with  {v1 : Int32} {v2 : Int32} {v3 : Int32} {v4 : Int32} {σ : gm_S} {r : Int32 × gm_S} (hp : sp_Md_with  v1 v2 v3 v4 σ = some r) : gm_Has l F (d + 2) m_Md_with a A [.int v1, .int v2, .int v3, .int v4] σ (fun w σ' => w = some (.int r.1) ∧ σ' = r.2) := by
  refine gm_meth (k := 1) (L := [some (.ref a), some (.int v1), some (.int v2), some (.int v3), some (.int v4), none]) pn_Md rfl (Nat.le_of_ble_eq_true rfl) ?_
  unfold sp_Md_with at hp
  refine gm_p k_Md_with rfl rfl ?_
  refine gm_p k_Md_with rfl rfl ?_
  refine gm_p k_Md_with rfl rfl ?_
  refine gm_p k_Md_with rfl rfl ?_
  cases hy1 : sp_Md_makePart  v1 v2 0 σ with
  | none =>
    rw [hy1] at hp
    cases hp
  | some y1 =>
    rw [hy1] at hp
    dsimp only at hp
    refine gm_ivB (M' := m_Md_makePart) (As := [.int v1, .int v2, .int 0]) k_Md_with rfl rfl rfl rfl rfl rfl (Nat.le_of_ble_eq_true rfl) (c_sp_Md_makePart  hy1) (fun hby1 => ?_)
    refine gm_p (L' := [some (.ref a), some (.int v1), some (.int v2), some (.int v3), some (.int v4), some (.int y1.1)]) (st' := []) k_Md_with rfl rfl ?_
    refine gm_p k_Md_with rfl rfl ?_
    refine gm_g k_Md_with rfl rfl rfl rfl ?_
    refine gm_p k_Md_with rfl rfl ?_
    refine gm_p k_Md_with rfl rfl ?_
    by_cases g2 : gi y1.1 2600 = true
    · rw [if_pos g2] at hp
      refine gm_sto k_Md_with rfl rfl (gi_in g2) (by decide) ?_
      refine gm_p k_Md_with rfl rfl ?_
      refine gm_g k_Md_with rfl rfl rfl rfl ?_
      refine gm_p k_Md_with rfl rfl ?_
      refine gm_p k_Md_with rfl rfl ?_
      by_cases g3 : gi v3 2600 = true
      · rw [if_pos g3] at hp
        refine gm_sto k_Md_with rfl rfl (gi_in g3) (by decide) ?_
        refine gm_p k_Md_with rfl rfl ?_
        refine gm_p k_Md_with rfl rfl ?_
        refine gm_ic k_Md_with rfl rfl rfl (fun h4 => ?_) (fun h4 => ?_)
        · skip
          rw [if_pos (show v4 = (-1) from h4)] at hp
          refine gm_p k_Md_with rfl rfl ?_
          refine gm_p k_Md_with rfl rfl ?_
          cases hy5 : sp_Md_settle  y1.1 (y1.2.1, (gm_up (gm_up y1.2.2 23 (upd (y1.2.2 23) y1.1.toNatClampNeg v3)) 24 (upd (y1.2.2 24) v3.toNatClampNeg v4))) with
          | none =>
            rw [hy5] at hp
            cases hp
          | some y5 =>
            rw [hy5] at hp
            dsimp only at hp
            refine gm_ivV (M' := m_Md_settle) (As := [.int y1.1]) k_Md_with rfl rfl rfl rfl rfl rfl (Nat.le_of_ble_eq_true rfl) (c_sp_Md_settle  hy5) ?_
            refine gm_p k_Md_with rfl rfl ?_
            cases hp
            exact gm_ret (v := some (.int _)) k_Md_with rfl rfl trivial rfl ⟨rfl, rfl⟩
        · skip
          rw [if_neg (show ¬ (v4 = (-1)) from h4)] at hp
          refine gm_p k_Md_with rfl rfl ?_
          refine gm_g k_Md_with rfl rfl rfl rfl ?_
          refine gm_p k_Md_with rfl rfl ?_
          refine gm_p k_Md_with rfl rfl ?_
          by_cases g6 : gi v4 2600 = true
          · rw [if_pos g6] at hp
            refine gm_sto k_Md_with rfl rfl (gi_in g6) (by decide) ?_
            refine gm_p k_Md_with rfl rfl ?_
            refine gm_p k_Md_with rfl rfl ?_
            cases hy7 : sp_Md_settle  y1.1 (y1.2.1, (gm_up (gm_up (gm_up y1.2.2 23 (upd (y1.2.2 23) y1.1.toNatClampNeg v3)) 24 (upd (y1.2.2 24) v3.toNatClampNeg v4)) 24 (upd (upd (y1.2.2 24) v3.toNatClampNeg v4) v4.toNatClampNeg (-1)))) with
            | none =>
              rw [hy7] at hp
              cases hp
            | some y7 =>
              rw [hy7] at hp
              dsimp only at hp
              refine gm_ivV (M' := m_Md_settle) (As := [.int y1.1]) k_Md_with rfl rfl rfl rfl rfl rfl (Nat.le_of_ble_eq_true rfl) (c_sp_Md_settle  hy7) ?_
              refine gm_p k_Md_with rfl rfl ?_
              cases hp
              exact gm_ret (v := some (.int _)) k_Md_with rfl rfl trivial rfl ⟨rfl, rfl⟩
          · rw [if_neg g6] at hp
            cases hp
      · rw [if_neg g3] at hp
        cases hp
    · rw [if_neg g2] at hp
      cases hp
def sp_Md_takeLetter   (σ : gm_S) : Option (Int32 × gm_S) := (match sp_Md_see   σ with
  | none => none
  | some y1 => (if (q_in y1.1 97 122) = 0 then some ((-1), y1.2) else (if gi (((y1.2.1 27) + 1) - 1) 500 = true then some ((((y1.2.2 4) (((y1.2.1 27) + 1) - 1).toNatClampNeg) - 97), ((upd y1.2.1 27 ((y1.2.1 27) + 1)), y1.2.2)) else none)))
theorem c_sp_Md_takeLetter   {σ : gm_S} {r : Int32 × gm_S} (hp : sp_Md_takeLetter   σ = some r) : gm_Has l F (d + 1) m_Md_takeLetter a A [] σ (fun w σ' => w = some (.int r.1) ∧ σ' = r.2) := by
  refine gm_meth (k := 0) (L := [some (.ref a)]) pn_Md rfl (Nat.le_of_ble_eq_true rfl) ?_
  unfold sp_Md_takeLetter at hp
  refine gm_p k_Md_takeLetter rfl rfl ?_
  cases hy1 : sp_Md_see   σ with
  | none =>
    rw [hy1] at hp
    cases hp
  | some y1 =>
    rw [hy1] at hp
    dsimp only at hp
    refine gm_ivB (M' := m_Md_see) (As := []) k_Md_takeLetter rfl rfl rfl rfl rfl rfl (Nat.le_of_ble_eq_true rfl) (c_sp_Md_see  hy1) (fun hby1 => ?_)
    refine gm_p k_Md_takeLetter rfl rfl ?_
    refine gm_p k_Md_takeLetter rfl rfl ?_
    refine gm_is (M' := m_Md_in) (As := [.int y1.1, .int 97, .int 122]) k_Md_takeLetter rfl rfl rfl rfl rfl rfl (Nat.le_of_ble_eq_true rfl) (fun h => c_Md_inQ y1.1 97 122 h) ?_
    refine gm_if k_Md_takeLetter rfl rfl rfl (fun h2 => ?_) (fun h2 => ?_)
    · skip
      rw [if_neg (show ¬ ((q_in y1.1 97 122) = 0) from h2)] at hp
      refine gm_p k_Md_takeLetter rfl rfl ?_
      refine gm_p k_Md_takeLetter rfl rfl ?_
      refine gm_g k_Md_takeLetter rfl rfl rfl rfl ?_
      refine gm_p k_Md_takeLetter rfl rfl ?_
      refine gm_p k_Md_takeLetter rfl rfl ?_
      refine gm_pt k_Md_takeLetter rfl rfl rfl trivial (by decide) rfl ?_
      refine gm_p k_Md_takeLetter rfl rfl ?_
      refine gm_g k_Md_takeLetter rfl rfl rfl rfl ?_
      refine gm_p k_Md_takeLetter rfl rfl ?_
      refine gm_g k_Md_takeLetter rfl rfl rfl rfl ?_
      refine gm_p k_Md_takeLetter rfl rfl ?_
      refine gm_p k_Md_takeLetter rfl rfl ?_
      by_cases g3 : gi (((y1.2.1 27) + 1) - 1) 500 = true
      · rw [if_pos g3] at hp
        refine gm_ld k_Md_takeLetter rfl rfl (gi_in g3) (by decide) ?_
        refine gm_p k_Md_takeLetter rfl rfl ?_
        refine gm_p k_Md_takeLetter rfl rfl ?_
        cases hp
        exact gm_ret (v := some (.int _)) k_Md_takeLetter rfl rfl trivial rfl ⟨rfl, rfl⟩
      · rw [if_neg g3] at hp
        cases hp
    · skip
      rw [if_pos (show (q_in y1.1 97 122) = 0 from h2)] at hp
      refine gm_p k_Md_takeLetter rfl rfl ?_
      cases hp
      exact gm_ret (v := some (.int _)) k_Md_takeLetter rfl rfl trivial rfl ⟨rfl, rfl⟩
def sp_Md_isNamed  (v1 : Int32) (σ : gm_S) : Option (Int32 × gm_S) := (match sp_Md_takeLetter   σ with
  | none => none
  | some y1 => (if y1.1 = (-1) then some (0, ((upd y1.2.1 35 y1.1), y1.2.2)) else (if gi y1.1 26 = true then (if ((y1.2.2 31) y1.1.toNatClampNeg) = 0 then (match sp_Md_note  2 (σ.1 27) ((upd y1.2.1 35 y1.1), y1.2.2) with
  | none => none
  | some y5 => some (1, y5)) else (if v1 = 0 then some (1, ((upd y1.2.1 35 y1.1), y1.2.2)) else (if ((y1.2.2 31) y1.1.toNatClampNeg) = 1 then (match sp_Md_note  2 (σ.1 27) ((upd y1.2.1 35 y1.1), y1.2.2) with
  | none => none
  | some y8 => some (1, y8)) else some (1, ((upd y1.2.1 35 y1.1), y1.2.2))))) else none)))
theorem c_sp_Md_isNamed  {v1 : Int32} {σ : gm_S} {r : Int32 × gm_S} (hp : sp_Md_isNamed  v1 σ = some r) : gm_Has l F (d + 2) m_Md_isNamed a A [.int v1] σ (fun w σ' => w = some (.int r.1) ∧ σ' = r.2) := by
  refine gm_meth (k := 1) (L := [some (.ref a), some (.int v1), none]) pn_Md rfl (Nat.le_of_ble_eq_true rfl) ?_
  unfold sp_Md_isNamed at hp
  refine gm_p k_Md_isNamed rfl rfl ?_
  refine gm_g k_Md_isNamed rfl rfl rfl rfl ?_
  refine gm_p (L' := [some (.ref a), some (.int v1), some (.int (σ.1 27))]) (st' := []) k_Md_isNamed rfl rfl ?_
  refine gm_p k_Md_isNamed rfl rfl ?_
  refine gm_p k_Md_isNamed rfl rfl ?_
  cases hy1 : sp_Md_takeLetter   σ with
  | none =>
    rw [hy1] at hp
    cases hp
  | some y1 =>
    rw [hy1] at hp
    dsimp only at hp
    refine gm_ivB (M' := m_Md_takeLetter) (As := []) k_Md_isNamed rfl rfl rfl rfl rfl rfl (Nat.le_of_ble_eq_true rfl) (c_sp_Md_takeLetter  hy1) (fun hby1 => ?_)
    refine gm_pt k_Md_isNamed rfl rfl rfl trivial (by decide) rfl ?_
    refine gm_p k_Md_isNamed rfl rfl ?_
    refine gm_g k_Md_isNamed rfl rfl rfl rfl ?_
    refine gm_p k_Md_isNamed rfl rfl ?_
    refine gm_ic k_Md_isNamed rfl rfl rfl (fun h2 => ?_) (fun h2 => ?_)
    · skip
      rw [if_neg (show ¬ (y1.1 = (-1)) from h2)] at hp
      refine gm_p k_Md_isNamed rfl rfl ?_
      refine gm_g k_Md_isNamed rfl rfl rfl rfl ?_
      refine gm_p k_Md_isNamed rfl rfl ?_
      refine gm_g k_Md_isNamed rfl rfl rfl rfl ?_
      by_cases g3 : gi y1.1 26 = true
      · rw [if_pos g3] at hp
        refine gm_ld k_Md_isNamed rfl rfl (gi_in g3) (by decide) ?_
        refine gm_if k_Md_isNamed rfl rfl rfl (fun h4 => ?_) (fun h4 => ?_)
        · skip
          rw [if_pos (show ((y1.2.2 31) y1.1.toNatClampNeg) = 0 from h4)] at hp
          refine gm_p k_Md_isNamed rfl rfl ?_
          refine gm_p k_Md_isNamed rfl rfl ?_
          refine gm_p k_Md_isNamed rfl rfl ?_
          cases hy5 : sp_Md_note  2 (σ.1 27) ((upd y1.2.1 35 y1.1), y1.2.2) with
          | none =>
            rw [hy5] at hp
            cases hp
          | some y5 =>
            rw [hy5] at hp
            dsimp only at hp
            refine gm_ivV (M' := m_Md_note) (As := [.int 2, .int (σ.1 27)]) k_Md_isNamed rfl rfl rfl rfl rfl rfl (Nat.le_of_ble_eq_true rfl) (c_sp_Md_note  hy5) ?_
            refine gm_p k_Md_isNamed rfl rfl ?_
            cases hp
            exact gm_ret (v := some (.int _)) k_Md_isNamed rfl rfl (Or.inr rfl) rfl ⟨rfl, rfl⟩
        · skip
          rw [if_neg (show ¬ (((y1.2.2 31) y1.1.toNatClampNeg) = 0) from h4)] at hp
          refine gm_p k_Md_isNamed rfl rfl ?_
          refine gm_if k_Md_isNamed rfl rfl rfl (fun h6 => ?_) (fun h6 => ?_)
          · skip
            rw [if_pos (show v1 = 0 from h6)] at hp
            refine gm_p k_Md_isNamed rfl rfl ?_
            cases hp
            exact gm_ret (v := some (.int _)) k_Md_isNamed rfl rfl (Or.inr rfl) rfl ⟨rfl, rfl⟩
          · skip
            rw [if_neg (show ¬ (v1 = 0) from h6)] at hp
            refine gm_p k_Md_isNamed rfl rfl ?_
            refine gm_g k_Md_isNamed rfl rfl rfl rfl ?_
            refine gm_p k_Md_isNamed rfl rfl ?_
            refine gm_g k_Md_isNamed rfl rfl rfl rfl ?_
            refine gm_ld k_Md_isNamed rfl rfl (gi_in g3) (by decide) ?_
            refine gm_p k_Md_isNamed rfl rfl ?_
            refine gm_ic k_Md_isNamed rfl rfl rfl (fun h7 => ?_) (fun h7 => ?_)
            · skip
              rw [if_neg (show ¬ (((y1.2.2 31) y1.1.toNatClampNeg) = 1) from h7)] at hp
              refine gm_p k_Md_isNamed rfl rfl ?_
              cases hp
              exact gm_ret (v := some (.int _)) k_Md_isNamed rfl rfl (Or.inr rfl) rfl ⟨rfl, rfl⟩
            · skip
              rw [if_pos (show ((y1.2.2 31) y1.1.toNatClampNeg) = 1 from h7)] at hp
              refine gm_p k_Md_isNamed rfl rfl ?_
              refine gm_p k_Md_isNamed rfl rfl ?_
              refine gm_p k_Md_isNamed rfl rfl ?_
              cases hy8 : sp_Md_note  2 (σ.1 27) ((upd y1.2.1 35 y1.1), y1.2.2) with
              | none =>
                rw [hy8] at hp
                cases hp
              | some y8 =>
                rw [hy8] at hp
                dsimp only at hp
                refine gm_ivV (M' := m_Md_note) (As := [.int 2, .int (σ.1 27)]) k_Md_isNamed rfl rfl rfl rfl rfl rfl (Nat.le_of_ble_eq_true rfl) (c_sp_Md_note  hy8) ?_
                refine gm_p k_Md_isNamed rfl rfl ?_
                cases hp
                exact gm_ret (v := some (.int _)) k_Md_isNamed rfl rfl (Or.inr rfl) rfl ⟨rfl, rfl⟩
      · rw [if_neg g3] at hp
        cases hp
    · skip
      rw [if_pos (show y1.1 = (-1) from h2)] at hp
      refine gm_p k_Md_isNamed rfl rfl ?_
      cases hp
      exact gm_ret (v := some (.int _)) k_Md_isNamed rfl rfl (Or.inl rfl) rfl ⟨rfl, rfl⟩
def sp_Md_pause  (v1 : Int32) (σ : gm_S) : Option (Int32 × gm_S) := (if gi (σ.1 10) 7 = true then (match sp_Md_makePart  1 (-1) ((σ.2 17) (σ.1 10).toNatClampNeg) (σ.1, (gm_up σ.2 17 (upd (σ.2 17) (σ.1 10).toNatClampNeg (((σ.2 17) (σ.1 10).toNatClampNeg) + 1)))) with
  | none => none
  | some y2 => (if (30 : Int32) ≤ ((σ.2 17) (σ.1 10).toNatClampNeg) then (match sp_Md_note  4 v1 y2.2 with
  | none => none
  | some y4 => some (y2.1, y4)) else (if gi y2.1 2600 = true then (if gi ((30 * (y2.2.1 10)) + ((σ.2 17) (σ.1 10).toNatClampNeg)) 210 = true then some (y2.1, (y2.2.1, (gm_up (gm_up y2.2.2 25 (upd (y2.2.2 25) y2.1.toNatClampNeg (1 <<< (((σ.2 17) (σ.1 10).toNatClampNeg) &&& 31)))) 18 (upd (y2.2.2 18) ((30 * (y2.2.1 10)) + ((σ.2 17) (σ.1 10).toNatClampNeg)).toNatClampNeg v1)))) else none) else none))) else none)
theorem c_sp_Md_pause  {v1 : Int32} {σ : gm_S} {r : Int32 × gm_S} (hp : sp_Md_pause  v1 σ = some r) : gm_Has l F (d + 1) m_Md_pause a A [.int v1] σ (fun w σ' => w = some (.int r.1) ∧ σ' = r.2) := by
  refine gm_meth (k := 2) (L := [some (.ref a), some (.int v1), none, none]) pn_Md rfl (Nat.le_of_ble_eq_true rfl) ?_
  unfold sp_Md_pause at hp
  refine gm_p k_Md_pause rfl rfl ?_
  refine gm_g k_Md_pause rfl rfl rfl rfl ?_
  refine gm_p k_Md_pause rfl rfl ?_
  refine gm_g k_Md_pause rfl rfl rfl rfl ?_
  by_cases g1 : gi (σ.1 10) 7 = true
  · rw [if_pos g1] at hp
    refine gm_ld k_Md_pause rfl rfl (gi_in g1) (by decide) ?_
    refine gm_p (L' := [some (.ref a), some (.int v1), some (.int ((σ.2 17) (σ.1 10).toNatClampNeg)), none]) (st' := []) k_Md_pause rfl rfl ?_
    refine gm_p k_Md_pause rfl rfl ?_
    refine gm_g k_Md_pause rfl rfl rfl rfl ?_
    refine gm_p k_Md_pause rfl rfl ?_
    refine gm_g k_Md_pause rfl rfl rfl rfl ?_
    refine gm_p k_Md_pause rfl rfl ?_
    refine gm_ld k_Md_pause rfl rfl (gi_in g1) (by decide) ?_
    refine gm_p k_Md_pause rfl rfl ?_
    refine gm_p k_Md_pause rfl rfl ?_
    refine gm_sto k_Md_pause rfl rfl (gi_in g1) (by decide) ?_
    refine gm_p k_Md_pause rfl rfl ?_
    refine gm_p k_Md_pause rfl rfl ?_
    refine gm_p k_Md_pause rfl rfl ?_
    refine gm_p k_Md_pause rfl rfl ?_
    cases hy2 : sp_Md_makePart  1 (-1) ((σ.2 17) (σ.1 10).toNatClampNeg) (σ.1, (gm_up σ.2 17 (upd (σ.2 17) (σ.1 10).toNatClampNeg (((σ.2 17) (σ.1 10).toNatClampNeg) + 1)))) with
    | none =>
      rw [hy2] at hp
      cases hp
    | some y2 =>
      rw [hy2] at hp
      dsimp only at hp
      refine gm_ivB (M' := m_Md_makePart) (As := [.int 1, .int (-1), .int ((σ.2 17) (σ.1 10).toNatClampNeg)]) k_Md_pause rfl rfl rfl rfl rfl rfl (Nat.le_of_ble_eq_true rfl) (c_sp_Md_makePart  hy2) (fun hby2 => ?_)
      refine gm_p (L' := [some (.ref a), some (.int v1), some (.int ((σ.2 17) (σ.1 10).toNatClampNeg)), some (.int y2.1)]) (st' := []) k_Md_pause rfl rfl ?_
      refine gm_p k_Md_pause rfl rfl ?_
      refine gm_p k_Md_pause rfl rfl ?_
      refine gm_ic k_Md_pause rfl rfl rfl (fun h3 => ?_) (fun h3 => ?_)
      · skip
        rw [if_pos (show (30 : Int32) ≤ ((σ.2 17) (σ.1 10).toNatClampNeg) from h3)] at hp
        refine gm_p k_Md_pause rfl rfl ?_
        refine gm_p k_Md_pause rfl rfl ?_
        refine gm_p k_Md_pause rfl rfl ?_
        cases hy4 : sp_Md_note  4 v1 y2.2 with
        | none =>
          rw [hy4] at hp
          cases hp
        | some y4 =>
          rw [hy4] at hp
          dsimp only at hp
          refine gm_ivV (M' := m_Md_note) (As := [.int 4, .int v1]) k_Md_pause rfl rfl rfl rfl rfl rfl (Nat.le_of_ble_eq_true rfl) (c_sp_Md_note  hy4) ?_
          refine gm_p k_Md_pause rfl rfl ?_
          cases hp
          exact gm_ret (v := some (.int _)) k_Md_pause rfl rfl trivial rfl ⟨rfl, rfl⟩
      · skip
        rw [if_neg (show ¬ ((30 : Int32) ≤ ((σ.2 17) (σ.1 10).toNatClampNeg)) from h3)] at hp
        refine gm_p k_Md_pause rfl rfl ?_
        refine gm_g k_Md_pause rfl rfl rfl rfl ?_
        refine gm_p k_Md_pause rfl rfl ?_
        refine gm_p k_Md_pause rfl rfl ?_
        refine gm_p k_Md_pause rfl rfl ?_
        refine gm_p k_Md_pause rfl rfl ?_
        by_cases g5 : gi y2.1 2600 = true
        · rw [if_pos g5] at hp
          refine gm_sto k_Md_pause rfl rfl (gi_in g5) (by decide) ?_
          refine gm_p k_Md_pause rfl rfl ?_
          refine gm_g k_Md_pause rfl rfl rfl rfl ?_
          refine gm_p k_Md_pause rfl rfl ?_
          refine gm_p k_Md_pause rfl rfl ?_
          refine gm_g k_Md_pause rfl rfl rfl rfl ?_
          refine gm_p k_Md_pause rfl rfl ?_
          refine gm_p k_Md_pause rfl rfl ?_
          refine gm_p k_Md_pause rfl rfl ?_
          refine gm_p k_Md_pause rfl rfl ?_
          by_cases g6 : gi ((30 * (y2.2.1 10)) + ((σ.2 17) (σ.1 10).toNatClampNeg)) 210 = true
          · rw [if_pos g6] at hp
            refine gm_sto k_Md_pause rfl rfl (gi_in g6) (by decide) ?_
            refine gm_j k_Md_pause rfl rfl ?_
            refine gm_p k_Md_pause rfl rfl ?_
            cases hp
            exact gm_ret (v := some (.int _)) k_Md_pause rfl rfl trivial rfl ⟨rfl, rfl⟩
          · rw [if_neg g6] at hp
            cases hp
        · rw [if_neg g5] at hp
          cases hp
  · rw [if_neg g1] at hp
    cases hp
def sp_Md_waiting  (v1 : Int32) (v2 : Int32) (σ : gm_S) : Option (Int32 × gm_S) := (match sp_Md_pause  v2 σ with
  | none => none
  | some y1 => (match sp_Md_makePart  7 (-1) 2 y1.2 with
  | none => none
  | some y2 => (match sp_Md_makePart  0 (-1) 0 y2.2 with
  | none => none
  | some y3 => (match sp_Md_with  3 v1 y2.1 y3.1 y3.2 with
  | none => none
  | some y4 => (match sp_Md_with  9 (-1) y1.1 y4.1 y4.2 with
  | none => none
  | some y5 => (match sp_Md_with  4 (-1) y5.1 (-1) y5.2 with
  | none => none
  | some y6 => some (y6.1, y6.2)))))))
theorem c_sp_Md_waiting  {v1 : Int32} {v2 : Int32} {σ : gm_S} {r : Int32 × gm_S} (hp : sp_Md_waiting  v1 v2 σ = some r) : gm_Has l F (d + 3) m_Md_waiting a A [.int v1, .int v2] σ (fun w σ' => w = some (.int r.1) ∧ σ' = r.2) := by
  refine gm_meth (k := 4) (L := [some (.ref a), some (.int v1), some (.int v2), none, none, none, none]) pn_Md rfl (Nat.le_of_ble_eq_true rfl) ?_
  unfold sp_Md_waiting at hp
  refine gm_p k_Md_waiting rfl rfl ?_
  refine gm_p k_Md_waiting rfl rfl ?_
  cases hy1 : sp_Md_pause  v2 σ with
  | none =>
    rw [hy1] at hp
    cases hp
  | some y1 =>
    rw [hy1] at hp
    dsimp only at hp
    refine gm_ivB (M' := m_Md_pause) (As := [.int v2]) k_Md_waiting rfl rfl rfl rfl rfl rfl (Nat.le_of_ble_eq_true rfl) (c_sp_Md_pause  hy1) (fun hby1 => ?_)
    refine gm_p (L' := [some (.ref a), some (.int v1), some (.int v2), some (.int y1.1), none, none, none]) (st' := []) k_Md_waiting rfl rfl ?_
    refine gm_p k_Md_waiting rfl rfl ?_
    refine gm_p k_Md_waiting rfl rfl ?_
    refine gm_p k_Md_waiting rfl rfl ?_
    refine gm_p k_Md_waiting rfl rfl ?_
    cases hy2 : sp_Md_makePart  7 (-1) 2 y1.2 with
    | none =>
      rw [hy2] at hp
      cases hp
    | some y2 =>
      rw [hy2] at hp
      dsimp only at hp
      refine gm_ivB (M' := m_Md_makePart) (As := [.int 7, .int (-1), .int 2]) k_Md_waiting rfl rfl rfl rfl rfl rfl (Nat.le_of_ble_eq_true rfl) (c_sp_Md_makePart  hy2) (fun hby2 => ?_)
      refine gm_p (L' := [some (.ref a), some (.int v1), some (.int v2), some (.int y1.1), some (.int y2.1), none, none]) (st' := []) k_Md_waiting rfl rfl ?_
      refine gm_p k_Md_waiting rfl rfl ?_
      refine gm_p k_Md_waiting rfl rfl ?_
      refine gm_p k_Md_waiting rfl rfl ?_
      refine gm_p k_Md_waiting rfl rfl ?_
      cases hy3 : sp_Md_makePart  0 (-1) 0 y2.2 with
      | none =>
        rw [hy3] at hp
        cases hp
      | some y3 =>
        rw [hy3] at hp
        dsimp only at hp
        refine gm_ivB (M' := m_Md_makePart) (As := [.int 0, .int (-1), .int 0]) k_Md_waiting rfl rfl rfl rfl rfl rfl (Nat.le_of_ble_eq_true rfl) (c_sp_Md_makePart  hy3) (fun hby3 => ?_)
        refine gm_p (L' := [some (.ref a), some (.int v1), some (.int v2), some (.int y1.1), some (.int y2.1), some (.int y3.1), none]) (st' := []) k_Md_waiting rfl rfl ?_
        refine gm_p k_Md_waiting rfl rfl ?_
        refine gm_p k_Md_waiting rfl rfl ?_
        refine gm_p k_Md_waiting rfl rfl ?_
        refine gm_p k_Md_waiting rfl rfl ?_
        refine gm_p k_Md_waiting rfl rfl ?_
        cases hy4 : sp_Md_with  3 v1 y2.1 y3.1 y3.2 with
        | none =>
          rw [hy4] at hp
          cases hp
        | some y4 =>
          rw [hy4] at hp
          dsimp only at hp
          refine gm_ivB (M' := m_Md_with) (As := [.int 3, .int v1, .int y2.1, .int y3.1]) k_Md_waiting rfl rfl rfl rfl rfl rfl (Nat.le_of_ble_eq_true rfl) (c_sp_Md_with  hy4) (fun hby4 => ?_)
          refine gm_p (L' := [some (.ref a), some (.int v1), some (.int v2), some (.int y1.1), some (.int y2.1), some (.int y3.1), some (.int y4.1)]) (st' := []) k_Md_waiting rfl rfl ?_
          refine gm_p k_Md_waiting rfl rfl ?_
          refine gm_p k_Md_waiting rfl rfl ?_
          refine gm_p k_Md_waiting rfl rfl ?_
          refine gm_p k_Md_waiting rfl rfl ?_
          refine gm_p k_Md_waiting rfl rfl ?_
          refine gm_p k_Md_waiting rfl rfl ?_
          refine gm_p k_Md_waiting rfl rfl ?_
          refine gm_p k_Md_waiting rfl rfl ?_
          cases hy5 : sp_Md_with  9 (-1) y1.1 y4.1 y4.2 with
          | none =>
            rw [hy5] at hp
            cases hp
          | some y5 =>
            rw [hy5] at hp
            dsimp only at hp
            refine gm_ivB (M' := m_Md_with) (As := [.int 9, .int (-1), .int y1.1, .int y4.1]) k_Md_waiting rfl rfl rfl rfl rfl rfl (Nat.le_of_ble_eq_true rfl) (c_sp_Md_with  hy5) (fun hby5 => ?_)
            refine gm_p k_Md_waiting rfl rfl ?_
            cases hy6 : sp_Md_with  4 (-1) y5.1 (-1) y5.2 with
            | none =>
              rw [hy6] at hp
              cases hp
            | some y6 =>
              rw [hy6] at hp
              dsimp only at hp
              refine gm_ivB (M' := m_Md_with) (As := [.int 4, .int (-1), .int y5.1, .int (-1)]) k_Md_waiting rfl rfl rfl rfl rfl rfl (Nat.le_of_ble_eq_true rfl) (c_sp_Md_with  hy6) (fun hby6 => ?_)
              cases hp
              exact gm_ret (v := some (.int _)) k_Md_waiting rfl rfl trivial rfl ⟨rfl, rfl⟩
def mr_IH (l : Launch) (F : gx_F) (a : Nat) (A : Nat → Nat) (D : Nat) (f : gm_S → Option (Int32 × gm_S)) : Prop := ∀ (dd : Nat) (σ : gm_S) (r : Int32 × gm_S), D ≤ dd → f σ = some r → gm_Has l F dd m_Md_readP a A [] σ (fun w σ' => w = some (.int r.1) ∧ σ' = r.2)
variable {D : Nat} {f : gm_S → Option (Int32 × gm_S)}
def sp_Md_readInner (f : gm_S → Option (Int32 × gm_S))  (σ : gm_S) : Option (Int32 × gm_S) := (match sp_Md_see   σ with
  | none => none
  | some y1 => (if y1.1 = 40 then (if (y1.2.1 28) = 12 then some (0, y1.2) else (match f ((upd (upd y1.2.1 28 ((y1.2.1 28) + 1)) 27 ((y1.2.1 27) + 1)), y1.2.2) with
  | none => none
  | some y4 => (if y4.1 = 0 then some (0, y4.2) else (match sp_Md_want  41 y4.2 with
  | none => none
  | some y6 => (if y6.1 = 0 then some (0, y6.2) else some (1, ((upd y6.2.1 28 ((y6.2.1 28) - 1)), y6.2.2))))))) else some (0, y1.2)))
theorem c_sp_Md_readInner (hf : mr_IH l F a A D f) (hD : D ≤ d)  {σ : gm_S} {r : Int32 × gm_S} (hp : sp_Md_readInner f  σ = some r) : gm_Has l F (d + 2) m_Md_readInner a A [] σ (fun w σ' => w = some (.int r.1) ∧ σ' = r.2) := by
  refine gm_meth (k := 0) (L := [some (.ref a)]) pn_Md rfl (Nat.le_of_ble_eq_true rfl) ?_
  unfold sp_Md_readInner at hp
  refine gm_p k_Md_readInner rfl rfl ?_
  cases hy1 : sp_Md_see   σ with
  | none =>
    rw [hy1] at hp
    cases hp
  | some y1 =>
    rw [hy1] at hp
    dsimp only at hp
    refine gm_ivB (M' := m_Md_see) (As := []) k_Md_readInner rfl rfl rfl rfl rfl rfl (Nat.le_of_ble_eq_true rfl) (c_sp_Md_see  hy1) (fun hby1 => ?_)
    refine gm_p k_Md_readInner rfl rfl ?_
    refine gm_ic k_Md_readInner rfl rfl rfl (fun h2 => ?_) (fun h2 => ?_)
    · skip
      rw [if_neg (show ¬ (y1.1 = 40) from h2)] at hp
      refine gm_p k_Md_readInner rfl rfl ?_
      cases hp
      exact gm_ret (v := some (.int _)) k_Md_readInner rfl rfl (Or.inl rfl) rfl ⟨rfl, rfl⟩
    · skip
      rw [if_pos (show y1.1 = 40 from h2)] at hp
      refine gm_p k_Md_readInner rfl rfl ?_
      refine gm_g k_Md_readInner rfl rfl rfl rfl ?_
      refine gm_p k_Md_readInner rfl rfl ?_
      refine gm_ic k_Md_readInner rfl rfl rfl (fun h3 => ?_) (fun h3 => ?_)
      · skip
        rw [if_neg (show ¬ ((y1.2.1 28) = 12) from h3)] at hp
        refine gm_p k_Md_readInner rfl rfl ?_
        refine gm_p k_Md_readInner rfl rfl ?_
        refine gm_g k_Md_readInner rfl rfl rfl rfl ?_
        refine gm_p k_Md_readInner rfl rfl ?_
        refine gm_p k_Md_readInner rfl rfl ?_
        refine gm_pt k_Md_readInner rfl rfl rfl trivial (by decide) rfl ?_
        refine gm_p k_Md_readInner rfl rfl ?_
        refine gm_p k_Md_readInner rfl rfl ?_
        refine gm_g k_Md_readInner rfl rfl rfl rfl ?_
        refine gm_p k_Md_readInner rfl rfl ?_
        refine gm_p k_Md_readInner rfl rfl ?_
        refine gm_pt k_Md_readInner rfl rfl rfl trivial (by decide) rfl ?_
        refine gm_p k_Md_readInner rfl rfl ?_
        cases hy4 : f ((upd (upd y1.2.1 28 ((y1.2.1 28) + 1)) 27 ((y1.2.1 27) + 1)), y1.2.2) with
        | none =>
          rw [hy4] at hp
          cases hp
        | some y4 =>
          rw [hy4] at hp
          dsimp only at hp
          refine gm_ivB (M' := m_Md_readP) (As := []) k_Md_readInner rfl rfl rfl rfl rfl rfl (Nat.le_of_ble_eq_true rfl) (hf _ _ _ (by omega) hy4) (fun hby4 => ?_)
          refine gm_if k_Md_readInner rfl rfl rfl (fun h5 => ?_) (fun h5 => ?_)
          · skip
            rw [if_pos (show y4.1 = 0 from h5)] at hp
            refine gm_p k_Md_readInner rfl rfl ?_
            cases hp
            exact gm_ret (v := some (.int _)) k_Md_readInner rfl rfl (Or.inl rfl) rfl ⟨rfl, rfl⟩
          · skip
            rw [if_neg (show ¬ (y4.1 = 0) from h5)] at hp
            refine gm_p k_Md_readInner rfl rfl ?_
            refine gm_p k_Md_readInner rfl rfl ?_
            cases hy6 : sp_Md_want  41 y4.2 with
            | none =>
              rw [hy6] at hp
              cases hp
            | some y6 =>
              rw [hy6] at hp
              dsimp only at hp
              refine gm_ivB (M' := m_Md_want) (As := [.int 41]) k_Md_readInner rfl rfl rfl rfl rfl rfl (Nat.le_of_ble_eq_true rfl) (c_sp_Md_want  hy6) (fun hby6 => ?_)
              refine gm_if k_Md_readInner rfl rfl rfl (fun h7 => ?_) (fun h7 => ?_)
              · skip
                rw [if_neg (show ¬ (y6.1 = 0) from h7)] at hp
                refine gm_p k_Md_readInner rfl rfl ?_
                refine gm_p k_Md_readInner rfl rfl ?_
                refine gm_g k_Md_readInner rfl rfl rfl rfl ?_
                refine gm_p k_Md_readInner rfl rfl ?_
                refine gm_p k_Md_readInner rfl rfl ?_
                refine gm_pt k_Md_readInner rfl rfl rfl trivial (by decide) rfl ?_
                refine gm_p k_Md_readInner rfl rfl ?_
                cases hp
                exact gm_ret (v := some (.int _)) k_Md_readInner rfl rfl (Or.inr rfl) rfl ⟨rfl, rfl⟩
              · skip
                rw [if_pos (show y6.1 = 0 from h7)] at hp
                refine gm_p k_Md_readInner rfl rfl ?_
                cases hp
                exact gm_ret (v := some (.int _)) k_Md_readInner rfl rfl (Or.inl rfl) rfl ⟨rfl, rfl⟩
      · skip
        rw [if_pos (show (y1.2.1 28) = 12 from h3)] at hp
        refine gm_p k_Md_readInner rfl rfl ?_
        cases hp
        exact gm_ret (v := some (.int _)) k_Md_readInner rfl rfl (Or.inl rfl) rfl ⟨rfl, rfl⟩
def sp_Md_readIf (f : gm_S → Option (Int32 × gm_S))  (σ : gm_S) : Option (Int32 × gm_S) := (match sp_Md_isNamed  0 σ with
  | none => none
  | some y1 => (if y1.1 = 0 then some (0, y1.2) else (match sp_Md_readInner f  y1.2 with
  | none => none
  | some y3 => (if y3.1 = 0 then some (0, y3.2) else (match sp_Md_readInner f  y3.2 with
  | none => none
  | some y5 => (if y5.1 = 0 then some (0, y5.2) else (match sp_Md_with  3 (y1.2.1 35) (y3.2.1 34) (y5.2.1 34) y5.2 with
  | none => none
  | some y7 => some (1, ((upd y7.2.1 34 y7.1), y7.2.2)))))))))
theorem c_sp_Md_readIf (hf : mr_IH l F a A D f) (hD : D ≤ d)  {σ : gm_S} {r : Int32 × gm_S} (hp : sp_Md_readIf f  σ = some r) : gm_Has l F (d + 3) m_Md_readIf a A [] σ (fun w σ' => w = some (.int r.1) ∧ σ' = r.2) := by
  refine gm_meth (k := 2) (L := [some (.ref a), none, none]) pn_Md rfl (Nat.le_of_ble_eq_true rfl) ?_
  unfold sp_Md_readIf at hp
  refine gm_p k_Md_readIf rfl rfl ?_
  refine gm_p k_Md_readIf rfl rfl ?_
  cases hy1 : sp_Md_isNamed  0 σ with
  | none =>
    rw [hy1] at hp
    cases hp
  | some y1 =>
    rw [hy1] at hp
    dsimp only at hp
    refine gm_ivB (M' := m_Md_isNamed) (As := [.int 0]) k_Md_readIf rfl rfl rfl rfl rfl rfl (Nat.le_of_ble_eq_true rfl) (c_sp_Md_isNamed  hy1) (fun hby1 => ?_)
    refine gm_if k_Md_readIf rfl rfl rfl (fun h2 => ?_) (fun h2 => ?_)
    · skip
      rw [if_neg (show ¬ (y1.1 = 0) from h2)] at hp
      refine gm_p k_Md_readIf rfl rfl ?_
      refine gm_g k_Md_readIf rfl rfl rfl rfl ?_
      refine gm_p (L' := [some (.ref a), some (.int (y1.2.1 35)), none]) (st' := []) k_Md_readIf rfl rfl ?_
      refine gm_p k_Md_readIf rfl rfl ?_
      cases hy3 : sp_Md_readInner f  y1.2 with
      | none =>
        rw [hy3] at hp
        cases hp
      | some y3 =>
        rw [hy3] at hp
        dsimp only at hp
        refine gm_ivB (M' := m_Md_readInner) (As := []) k_Md_readIf rfl rfl rfl rfl rfl rfl (Nat.le_of_ble_eq_true rfl) (c_sp_Md_readInner hf (by omega) hy3) (fun hby3 => ?_)
        refine gm_if k_Md_readIf rfl rfl rfl (fun h4 => ?_) (fun h4 => ?_)
        · skip
          rw [if_neg (show ¬ (y3.1 = 0) from h4)] at hp
          refine gm_p k_Md_readIf rfl rfl ?_
          refine gm_g k_Md_readIf rfl rfl rfl rfl ?_
          refine gm_p (L' := [some (.ref a), some (.int (y1.2.1 35)), some (.int (y3.2.1 34))]) (st' := []) k_Md_readIf rfl rfl ?_
          refine gm_p k_Md_readIf rfl rfl ?_
          cases hy5 : sp_Md_readInner f  y3.2 with
          | none =>
            rw [hy5] at hp
            cases hp
          | some y5 =>
            rw [hy5] at hp
            dsimp only at hp
            refine gm_ivB (M' := m_Md_readInner) (As := []) k_Md_readIf rfl rfl rfl rfl rfl rfl (Nat.le_of_ble_eq_true rfl) (c_sp_Md_readInner hf (by omega) hy5) (fun hby5 => ?_)
            refine gm_if k_Md_readIf rfl rfl rfl (fun h6 => ?_) (fun h6 => ?_)
            · skip
              rw [if_neg (show ¬ (y5.1 = 0) from h6)] at hp
              refine gm_p k_Md_readIf rfl rfl ?_
              refine gm_p k_Md_readIf rfl rfl ?_
              refine gm_p k_Md_readIf rfl rfl ?_
              refine gm_p k_Md_readIf rfl rfl ?_
              refine gm_p k_Md_readIf rfl rfl ?_
              refine gm_p k_Md_readIf rfl rfl ?_
              refine gm_g k_Md_readIf rfl rfl rfl rfl ?_
              cases hy7 : sp_Md_with  3 (y1.2.1 35) (y3.2.1 34) (y5.2.1 34) y5.2 with
              | none =>
                rw [hy7] at hp
                cases hp
              | some y7 =>
                rw [hy7] at hp
                dsimp only at hp
                refine gm_ivB (M' := m_Md_with) (As := [.int 3, .int (y1.2.1 35), .int (y3.2.1 34), .int (y5.2.1 34)]) k_Md_readIf rfl rfl rfl rfl rfl rfl (Nat.le_of_ble_eq_true rfl) (c_sp_Md_with  hy7) (fun hby7 => ?_)
                refine gm_pt k_Md_readIf rfl rfl rfl trivial (by decide) rfl ?_
                refine gm_p k_Md_readIf rfl rfl ?_
                cases hp
                exact gm_ret (v := some (.int _)) k_Md_readIf rfl rfl (Or.inr rfl) rfl ⟨rfl, rfl⟩
            · skip
              rw [if_pos (show y5.1 = 0 from h6)] at hp
              refine gm_p k_Md_readIf rfl rfl ?_
              cases hp
              exact gm_ret (v := some (.int _)) k_Md_readIf rfl rfl (Or.inl rfl) rfl ⟨rfl, rfl⟩
        · skip
          rw [if_pos (show y3.1 = 0 from h4)] at hp
          refine gm_p k_Md_readIf rfl rfl ?_
          cases hp
          exact gm_ret (v := some (.int _)) k_Md_readIf rfl rfl (Or.inl rfl) rfl ⟨rfl, rfl⟩
    · skip
      rw [if_pos (show y1.1 = 0 from h2)] at hp
      refine gm_p k_Md_readIf rfl rfl ?_
      cases hp
      exact gm_ret (v := some (.int _)) k_Md_readIf rfl rfl (Or.inl rfl) rfl ⟨rfl, rfl⟩
def sp_Md_readLoop (f : gm_S → Option (Int32 × gm_S)) (v1 : Int32) (σ : gm_S) : Option (Int32 × gm_S) := (match sp_Md_readInner f  σ with
  | none => none
  | some y1 => (if y1.1 = 0 then some (0, y1.2) else (if gi (y1.2.1 34) 2600 = true then (if (((y1.2.2 26) (y1.2.1 34).toNatClampNeg) &&& 1) = 1 then (match sp_Md_note  3 v1 y1.2 with
  | none => none
  | some y6 => (match sp_Md_with  4 (-1) (y6.1 34) (-1) y6 with
  | none => none
  | some y7 => some (1, ((upd y7.2.1 34 y7.1), y7.2.2)))) else (match sp_Md_with  4 (-1) (y1.2.1 34) (-1) y1.2 with
  | none => none
  | some y5 => some (1, ((upd y5.2.1 34 y5.1), y5.2.2)))) else none)))
theorem c_sp_Md_readLoop (hf : mr_IH l F a A D f) (hD : D ≤ d) {v1 : Int32} {σ : gm_S} {r : Int32 × gm_S} (hp : sp_Md_readLoop f v1 σ = some r) : gm_Has l F (d + 3) m_Md_readLoop a A [.int v1] σ (fun w σ' => w = some (.int r.1) ∧ σ' = r.2) := by
  refine gm_meth (k := 0) (L := [some (.ref a), some (.int v1)]) pn_Md rfl (Nat.le_of_ble_eq_true rfl) ?_
  unfold sp_Md_readLoop at hp
  refine gm_p k_Md_readLoop rfl rfl ?_
  cases hy1 : sp_Md_readInner f  σ with
  | none =>
    rw [hy1] at hp
    cases hp
  | some y1 =>
    rw [hy1] at hp
    dsimp only at hp
    refine gm_ivB (M' := m_Md_readInner) (As := []) k_Md_readLoop rfl rfl rfl rfl rfl rfl (Nat.le_of_ble_eq_true rfl) (c_sp_Md_readInner hf (by omega) hy1) (fun hby1 => ?_)
    refine gm_if k_Md_readLoop rfl rfl rfl (fun h2 => ?_) (fun h2 => ?_)
    · skip
      rw [if_neg (show ¬ (y1.1 = 0) from h2)] at hp
      refine gm_p k_Md_readLoop rfl rfl ?_
      refine gm_g k_Md_readLoop rfl rfl rfl rfl ?_
      refine gm_p k_Md_readLoop rfl rfl ?_
      refine gm_g k_Md_readLoop rfl rfl rfl rfl ?_
      by_cases g3 : gi (y1.2.1 34) 2600 = true
      · rw [if_pos g3] at hp
        refine gm_ld k_Md_readLoop rfl rfl (gi_in g3) (by decide) ?_
        refine gm_p k_Md_readLoop rfl rfl ?_
        refine gm_p k_Md_readLoop rfl rfl ?_
        refine gm_p k_Md_readLoop rfl rfl ?_
        refine gm_ic k_Md_readLoop rfl rfl rfl (fun h4 => ?_) (fun h4 => ?_)
        · skip
          rw [if_neg (show ¬ ((((y1.2.2 26) (y1.2.1 34).toNatClampNeg) &&& 1) = 1) from h4)] at hp
          refine gm_p k_Md_readLoop rfl rfl ?_
          refine gm_p k_Md_readLoop rfl rfl ?_
          refine gm_p k_Md_readLoop rfl rfl ?_
          refine gm_p k_Md_readLoop rfl rfl ?_
          refine gm_p k_Md_readLoop rfl rfl ?_
          refine gm_g k_Md_readLoop rfl rfl rfl rfl ?_
          refine gm_p k_Md_readLoop rfl rfl ?_
          cases hy5 : sp_Md_with  4 (-1) (y1.2.1 34) (-1) y1.2 with
          | none =>
            rw [hy5] at hp
            cases hp
          | some y5 =>
            rw [hy5] at hp
            dsimp only at hp
            refine gm_ivB (M' := m_Md_with) (As := [.int 4, .int (-1), .int (y1.2.1 34), .int (-1)]) k_Md_readLoop rfl rfl rfl rfl rfl rfl (Nat.le_of_ble_eq_true rfl) (c_sp_Md_with  hy5) (fun hby5 => ?_)
            refine gm_pt k_Md_readLoop rfl rfl rfl trivial (by decide) rfl ?_
            refine gm_p k_Md_readLoop rfl rfl ?_
            cases hp
            exact gm_ret (v := some (.int _)) k_Md_readLoop rfl rfl (Or.inr rfl) rfl ⟨rfl, rfl⟩
        · skip
          rw [if_pos (show (((y1.2.2 26) (y1.2.1 34).toNatClampNeg) &&& 1) = 1 from h4)] at hp
          refine gm_p k_Md_readLoop rfl rfl ?_
          refine gm_p k_Md_readLoop rfl rfl ?_
          refine gm_p k_Md_readLoop rfl rfl ?_
          cases hy6 : sp_Md_note  3 v1 y1.2 with
          | none =>
            rw [hy6] at hp
            cases hp
          | some y6 =>
            rw [hy6] at hp
            dsimp only at hp
            refine gm_ivV (M' := m_Md_note) (As := [.int 3, .int v1]) k_Md_readLoop rfl rfl rfl rfl rfl rfl (Nat.le_of_ble_eq_true rfl) (c_sp_Md_note  hy6) ?_
            refine gm_p k_Md_readLoop rfl rfl ?_
            refine gm_p k_Md_readLoop rfl rfl ?_
            refine gm_p k_Md_readLoop rfl rfl ?_
            refine gm_p k_Md_readLoop rfl rfl ?_
            refine gm_p k_Md_readLoop rfl rfl ?_
            refine gm_g k_Md_readLoop rfl rfl rfl rfl ?_
            refine gm_p k_Md_readLoop rfl rfl ?_
            cases hy7 : sp_Md_with  4 (-1) (y6.1 34) (-1) y6 with
            | none =>
              rw [hy7] at hp
              cases hp
            | some y7 =>
              rw [hy7] at hp
              dsimp only at hp
              refine gm_ivB (M' := m_Md_with) (As := [.int 4, .int (-1), .int (y6.1 34), .int (-1)]) k_Md_readLoop rfl rfl rfl rfl rfl rfl (Nat.le_of_ble_eq_true rfl) (c_sp_Md_with  hy7) (fun hby7 => ?_)
              refine gm_pt k_Md_readLoop rfl rfl rfl trivial (by decide) rfl ?_
              refine gm_p k_Md_readLoop rfl rfl ?_
              cases hp
              exact gm_ret (v := some (.int _)) k_Md_readLoop rfl rfl (Or.inr rfl) rfl ⟨rfl, rfl⟩
      · rw [if_neg g3] at hp
        cases hp
    · skip
      rw [if_pos (show y1.1 = 0 from h2)] at hp
      refine gm_p k_Md_readLoop rfl rfl ?_
      cases hp
      exact gm_ret (v := some (.int _)) k_Md_readLoop rfl rfl (Or.inl rfl) rfl ⟨rfl, rfl⟩
def sp_Md_readSuspend (f : gm_S → Option (Int32 × gm_S))  (σ : gm_S) : Option (Int32 × gm_S) := (match sp_Md_isNamed  0 σ with
  | none => none
  | some y1 => (if y1.1 = 0 then some (0, y1.2) else (match sp_Md_readInner f  y1.2 with
  | none => none
  | some y3 => (if y3.1 = 0 then some (0, y3.2) else (match sp_Md_with  5 (y1.2.1 35) (y3.2.1 34) (-1) y3.2 with
  | none => none
  | some y5 => some (1, ((upd y5.2.1 34 y5.1), y5.2.2)))))))
theorem c_sp_Md_readSuspend (hf : mr_IH l F a A D f) (hD : D ≤ d)  {σ : gm_S} {r : Int32 × gm_S} (hp : sp_Md_readSuspend f  σ = some r) : gm_Has l F (d + 3) m_Md_readSuspend a A [] σ (fun w σ' => w = some (.int r.1) ∧ σ' = r.2) := by
  refine gm_meth (k := 1) (L := [some (.ref a), none]) pn_Md rfl (Nat.le_of_ble_eq_true rfl) ?_
  unfold sp_Md_readSuspend at hp
  refine gm_p k_Md_readSuspend rfl rfl ?_
  refine gm_p k_Md_readSuspend rfl rfl ?_
  cases hy1 : sp_Md_isNamed  0 σ with
  | none =>
    rw [hy1] at hp
    cases hp
  | some y1 =>
    rw [hy1] at hp
    dsimp only at hp
    refine gm_ivB (M' := m_Md_isNamed) (As := [.int 0]) k_Md_readSuspend rfl rfl rfl rfl rfl rfl (Nat.le_of_ble_eq_true rfl) (c_sp_Md_isNamed  hy1) (fun hby1 => ?_)
    refine gm_if k_Md_readSuspend rfl rfl rfl (fun h2 => ?_) (fun h2 => ?_)
    · skip
      rw [if_neg (show ¬ (y1.1 = 0) from h2)] at hp
      refine gm_p k_Md_readSuspend rfl rfl ?_
      refine gm_g k_Md_readSuspend rfl rfl rfl rfl ?_
      refine gm_p (L' := [some (.ref a), some (.int (y1.2.1 35))]) (st' := []) k_Md_readSuspend rfl rfl ?_
      refine gm_p k_Md_readSuspend rfl rfl ?_
      cases hy3 : sp_Md_readInner f  y1.2 with
      | none =>
        rw [hy3] at hp
        cases hp
      | some y3 =>
        rw [hy3] at hp
        dsimp only at hp
        refine gm_ivB (M' := m_Md_readInner) (As := []) k_Md_readSuspend rfl rfl rfl rfl rfl rfl (Nat.le_of_ble_eq_true rfl) (c_sp_Md_readInner hf (by omega) hy3) (fun hby3 => ?_)
        refine gm_if k_Md_readSuspend rfl rfl rfl (fun h4 => ?_) (fun h4 => ?_)
        · skip
          rw [if_neg (show ¬ (y3.1 = 0) from h4)] at hp
          refine gm_p k_Md_readSuspend rfl rfl ?_
          refine gm_p k_Md_readSuspend rfl rfl ?_
          refine gm_p k_Md_readSuspend rfl rfl ?_
          refine gm_p k_Md_readSuspend rfl rfl ?_
          refine gm_p k_Md_readSuspend rfl rfl ?_
          refine gm_g k_Md_readSuspend rfl rfl rfl rfl ?_
          refine gm_p k_Md_readSuspend rfl rfl ?_
          cases hy5 : sp_Md_with  5 (y1.2.1 35) (y3.2.1 34) (-1) y3.2 with
          | none =>
            rw [hy5] at hp
            cases hp
          | some y5 =>
            rw [hy5] at hp
            dsimp only at hp
            refine gm_ivB (M' := m_Md_with) (As := [.int 5, .int (y1.2.1 35), .int (y3.2.1 34), .int (-1)]) k_Md_readSuspend rfl rfl rfl rfl rfl rfl (Nat.le_of_ble_eq_true rfl) (c_sp_Md_with  hy5) (fun hby5 => ?_)
            refine gm_pt k_Md_readSuspend rfl rfl rfl trivial (by decide) rfl ?_
            refine gm_p k_Md_readSuspend rfl rfl ?_
            cases hp
            exact gm_ret (v := some (.int _)) k_Md_readSuspend rfl rfl (Or.inr rfl) rfl ⟨rfl, rfl⟩
        · skip
          rw [if_pos (show y3.1 = 0 from h4)] at hp
          refine gm_p k_Md_readSuspend rfl rfl ?_
          cases hp
          exact gm_ret (v := some (.int _)) k_Md_readSuspend rfl rfl (Or.inl rfl) rfl ⟨rfl, rfl⟩
    · skip
      rw [if_pos (show y1.1 = 0 from h2)] at hp
      refine gm_p k_Md_readSuspend rfl rfl ?_
      cases hp
      exact gm_ret (v := some (.int _)) k_Md_readSuspend rfl rfl (Or.inl rfl) rfl ⟨rfl, rfl⟩
def sp_Md_readTrap (f : gm_S → Option (Int32 × gm_S))  (σ : gm_S) : Option (Int32 × gm_S) := (match sp_Md_see   σ with
  | none => none
  | some y1 => (if (q_in y1.1 65 90) = 0 then some (0, y1.2) else (match sp_Md_see   y1.2 with
  | none => none
  | some y3 => (if gi (y1.2.1 32) 64 = true then (match sp_Md_readInner f  ((upd (upd y3.2.1 32 ((y3.2.1 32) + 1)) 27 ((y3.2.1 27) + 1)), (gm_up y3.2.2 33 (upd (y3.2.2 33) (y1.2.1 32).toNatClampNeg y3.1))) with
  | none => none
  | some y5 => (if y5.1 = 0 then some (0, y5.2) else (match sp_Md_with  6 (-1) (y5.2.1 34) (-1) ((upd y5.2.1 32 ((y5.2.1 32) - 1)), y5.2.2) with
  | none => none
  | some y7 => some (1, ((upd y7.2.1 34 y7.1), y7.2.2))))) else none))))
theorem c_sp_Md_readTrap (hf : mr_IH l F a A D f) (hD : D ≤ d)  {σ : gm_S} {r : Int32 × gm_S} (hp : sp_Md_readTrap f  σ = some r) : gm_Has l F (d + 3) m_Md_readTrap a A [] σ (fun w σ' => w = some (.int r.1) ∧ σ' = r.2) := by
  refine gm_meth (k := 0) (L := [some (.ref a)]) pn_Md rfl (Nat.le_of_ble_eq_true rfl) ?_
  unfold sp_Md_readTrap at hp
  refine gm_p k_Md_readTrap rfl rfl ?_
  cases hy1 : sp_Md_see   σ with
  | none =>
    rw [hy1] at hp
    cases hp
  | some y1 =>
    rw [hy1] at hp
    dsimp only at hp
    refine gm_ivB (M' := m_Md_see) (As := []) k_Md_readTrap rfl rfl rfl rfl rfl rfl (Nat.le_of_ble_eq_true rfl) (c_sp_Md_see  hy1) (fun hby1 => ?_)
    refine gm_p k_Md_readTrap rfl rfl ?_
    refine gm_p k_Md_readTrap rfl rfl ?_
    refine gm_is (M' := m_Md_in) (As := [.int y1.1, .int 65, .int 90]) k_Md_readTrap rfl rfl rfl rfl rfl rfl (Nat.le_of_ble_eq_true rfl) (fun h => c_Md_inQ y1.1 65 90 h) ?_
    refine gm_if k_Md_readTrap rfl rfl rfl (fun h2 => ?_) (fun h2 => ?_)
    · skip
      rw [if_neg (show ¬ ((q_in y1.1 65 90) = 0) from h2)] at hp
      refine gm_p k_Md_readTrap rfl rfl ?_
      refine gm_g k_Md_readTrap rfl rfl rfl rfl ?_
      refine gm_p k_Md_readTrap rfl rfl ?_
      refine gm_g k_Md_readTrap rfl rfl rfl rfl ?_
      refine gm_p k_Md_readTrap rfl rfl ?_
      cases hy3 : sp_Md_see   y1.2 with
      | none =>
        rw [hy3] at hp
        cases hp
      | some y3 =>
        rw [hy3] at hp
        dsimp only at hp
        refine gm_ivB (M' := m_Md_see) (As := []) k_Md_readTrap rfl rfl rfl rfl rfl rfl (Nat.le_of_ble_eq_true rfl) (c_sp_Md_see  hy3) (fun hby3 => ?_)
        by_cases g4 : gi (y1.2.1 32) 64 = true
        · rw [if_pos g4] at hp
          refine gm_sto k_Md_readTrap rfl rfl (gi_in g4) (by decide) ?_
          refine gm_p k_Md_readTrap rfl rfl ?_
          refine gm_p k_Md_readTrap rfl rfl ?_
          refine gm_g k_Md_readTrap rfl rfl rfl rfl ?_
          refine gm_p k_Md_readTrap rfl rfl ?_
          refine gm_p k_Md_readTrap rfl rfl ?_
          refine gm_pt k_Md_readTrap rfl rfl rfl trivial (by decide) rfl ?_
          refine gm_p k_Md_readTrap rfl rfl ?_
          refine gm_p k_Md_readTrap rfl rfl ?_
          refine gm_g k_Md_readTrap rfl rfl rfl rfl ?_
          refine gm_p k_Md_readTrap rfl rfl ?_
          refine gm_p k_Md_readTrap rfl rfl ?_
          refine gm_pt k_Md_readTrap rfl rfl rfl trivial (by decide) rfl ?_
          refine gm_p k_Md_readTrap rfl rfl ?_
          cases hy5 : sp_Md_readInner f  ((upd (upd y3.2.1 32 ((y3.2.1 32) + 1)) 27 ((y3.2.1 27) + 1)), (gm_up y3.2.2 33 (upd (y3.2.2 33) (y1.2.1 32).toNatClampNeg y3.1))) with
          | none =>
            rw [hy5] at hp
            cases hp
          | some y5 =>
            rw [hy5] at hp
            dsimp only at hp
            refine gm_ivB (M' := m_Md_readInner) (As := []) k_Md_readTrap rfl rfl rfl rfl rfl rfl (Nat.le_of_ble_eq_true rfl) (c_sp_Md_readInner hf (by omega) hy5) (fun hby5 => ?_)
            refine gm_if k_Md_readTrap rfl rfl rfl (fun h6 => ?_) (fun h6 => ?_)
            · skip
              rw [if_neg (show ¬ (y5.1 = 0) from h6)] at hp
              refine gm_p k_Md_readTrap rfl rfl ?_
              refine gm_p k_Md_readTrap rfl rfl ?_
              refine gm_g k_Md_readTrap rfl rfl rfl rfl ?_
              refine gm_p k_Md_readTrap rfl rfl ?_
              refine gm_p k_Md_readTrap rfl rfl ?_
              refine gm_pt k_Md_readTrap rfl rfl rfl trivial (by decide) rfl ?_
              refine gm_p k_Md_readTrap rfl rfl ?_
              refine gm_p k_Md_readTrap rfl rfl ?_
              refine gm_p k_Md_readTrap rfl rfl ?_
              refine gm_p k_Md_readTrap rfl rfl ?_
              refine gm_p k_Md_readTrap rfl rfl ?_
              refine gm_g k_Md_readTrap rfl rfl rfl rfl ?_
              refine gm_p k_Md_readTrap rfl rfl ?_
              cases hy7 : sp_Md_with  6 (-1) (y5.2.1 34) (-1) ((upd y5.2.1 32 ((y5.2.1 32) - 1)), y5.2.2) with
              | none =>
                rw [hy7] at hp
                cases hp
              | some y7 =>
                rw [hy7] at hp
                dsimp only at hp
                refine gm_ivB (M' := m_Md_with) (As := [.int 6, .int (-1), .int (y5.2.1 34), .int (-1)]) k_Md_readTrap rfl rfl rfl rfl rfl rfl (Nat.le_of_ble_eq_true rfl) (c_sp_Md_with  hy7) (fun hby7 => ?_)
                refine gm_pt k_Md_readTrap rfl rfl rfl trivial (by decide) rfl ?_
                refine gm_p k_Md_readTrap rfl rfl ?_
                cases hp
                exact gm_ret (v := some (.int _)) k_Md_readTrap rfl rfl (Or.inr rfl) rfl ⟨rfl, rfl⟩
            · skip
              rw [if_pos (show y5.1 = 0 from h6)] at hp
              refine gm_p k_Md_readTrap rfl rfl ?_
              cases hp
              exact gm_ret (v := some (.int _)) k_Md_readTrap rfl rfl (Or.inl rfl) rfl ⟨rfl, rfl⟩
        · rw [if_neg g4] at hp
          cases hp
    · skip
      rw [if_pos (show (q_in y1.1 65 90) = 0 from h2)] at hp
      refine gm_p k_Md_readTrap rfl rfl ?_
      cases hp
      exact gm_ret (v := some (.int _)) k_Md_readTrap rfl rfl (Or.inl rfl) rfl ⟨rfl, rfl⟩
def sp_Md_readExit_23   : Nat → Int32 → gm_S → Option (Int32 × gm_S)
  | 0, _, _ => none
  | m + 1, v1, σ => (if v1 < 0 then (if (0 : Int32) ≤ v1 then (match sp_Md_makePart  7 (-1) ((1 + (σ.1 32)) - v1) σ with
  | none => none
  | some y6 => some (1, ((upd (upd y6.2.1 34 y6.1) 27 ((y6.2.1 27) + 1)), y6.2.2))) else (match sp_Md_note  2 (σ.1 27) σ with
  | none => none
  | some y7 => (match sp_Md_makePart  7 (-1) 2 y7 with
  | none => none
  | some y9 => some (1, ((upd (upd y9.2.1 34 y9.1) 27 ((y9.2.1 27) + 1)), y9.2.2))))) else (if gi v1 64 = true then (match sp_Md_see   σ with
  | none => none
  | some y11 => (if ((σ.2 33) v1.toNatClampNeg) = y11.1 then (if (0 : Int32) ≤ v1 then (match sp_Md_makePart  7 (-1) ((1 + (y11.2.1 32)) - v1) y11.2 with
  | none => none
  | some y15 => some (1, ((upd (upd y15.2.1 34 y15.1) 27 ((y15.2.1 27) + 1)), y15.2.2))) else (match sp_Md_note  2 (y11.2.1 27) y11.2 with
  | none => none
  | some y16 => (match sp_Md_makePart  7 (-1) 2 y16 with
  | none => none
  | some y18 => some (1, ((upd (upd y18.2.1 34 y18.1) 27 ((y18.2.1 27) + 1)), y18.2.2))))) else sp_Md_readExit_23   m (v1 + (-1)) y11.2)) else none))
theorem c_sp_Md_readExit_23  {r : Int32 × gm_S} : ∀ (m : Nat) (v1 : Int32) (σ : gm_S), sp_Md_readExit_23   m v1 σ = some r → gm_Go l F (d + 1) m_Md_readExit a A 23 ([some (.ref a), some (.int v1)]) [] σ (fun w σ' => w = some (.int r.1) ∧ σ' = r.2) := by
  intro m
  induction m with
  | zero => intro v1 σ hp; cases hp
  | succ m ihm =>
    intro v1 σ hp
    unfold sp_Md_readExit_23 at hp
    refine gm_p k_Md_readExit rfl rfl ?_
    refine gm_if k_Md_readExit rfl rfl rfl (fun h3 => ?_) (fun h3 => ?_)
    · skip
      rw [if_pos (show v1 < 0 from h3)] at hp
      refine gm_p k_Md_readExit rfl rfl ?_
      refine gm_if k_Md_readExit rfl rfl rfl (fun h4 => ?_) (fun h4 => ?_)
      · skip
        rw [if_pos (show (0 : Int32) ≤ v1 from h4)] at hp
        refine gm_p k_Md_readExit rfl rfl ?_
        refine gm_p k_Md_readExit rfl rfl ?_
        refine gm_p k_Md_readExit rfl rfl ?_
        refine gm_p k_Md_readExit rfl rfl ?_
        refine gm_p k_Md_readExit rfl rfl ?_
        refine gm_if k_Md_readExit rfl rfl rfl (fun h5 => ?_) (fun h5 => ?_)
        · skip
          refine gm_p k_Md_readExit rfl rfl ?_
          refine gm_p k_Md_readExit rfl rfl ?_
          refine gm_g k_Md_readExit rfl rfl rfl rfl ?_
          refine gm_p k_Md_readExit rfl rfl ?_
          refine gm_p k_Md_readExit rfl rfl ?_
          refine gm_p k_Md_readExit rfl rfl ?_
          cases hy6 : sp_Md_makePart  7 (-1) ((1 + (σ.1 32)) - v1) σ with
          | none =>
            rw [hy6] at hp
            cases hp
          | some y6 =>
            rw [hy6] at hp
            dsimp only at hp
            refine gm_ivB (M' := m_Md_makePart) (As := [.int 7, .int (-1), .int ((1 + (σ.1 32)) - v1)]) k_Md_readExit rfl rfl rfl rfl rfl rfl (Nat.le_of_ble_eq_true rfl) (c_sp_Md_makePart  hy6) (fun hby6 => ?_)
            refine gm_pt k_Md_readExit rfl rfl rfl trivial (by decide) rfl ?_
            refine gm_p k_Md_readExit rfl rfl ?_
            refine gm_p k_Md_readExit rfl rfl ?_
            refine gm_g k_Md_readExit rfl rfl rfl rfl ?_
            refine gm_p k_Md_readExit rfl rfl ?_
            refine gm_p k_Md_readExit rfl rfl ?_
            refine gm_pt k_Md_readExit rfl rfl rfl trivial (by decide) rfl ?_
            refine gm_p k_Md_readExit rfl rfl ?_
            cases hp
            exact gm_ret (v := some (.int _)) k_Md_readExit rfl rfl (Or.inr rfl) rfl ⟨rfl, rfl⟩
        · skip
          exact absurd h4 h5
      · skip
        rw [if_neg (show ¬ ((0 : Int32) ≤ v1) from h4)] at hp
        refine gm_p k_Md_readExit rfl rfl ?_
        refine gm_p k_Md_readExit rfl rfl ?_
        refine gm_p k_Md_readExit rfl rfl ?_
        refine gm_g k_Md_readExit rfl rfl rfl rfl ?_
        cases hy7 : sp_Md_note  2 (σ.1 27) σ with
        | none =>
          rw [hy7] at hp
          cases hp
        | some y7 =>
          rw [hy7] at hp
          dsimp only at hp
          refine gm_ivV (M' := m_Md_note) (As := [.int 2, .int (σ.1 27)]) k_Md_readExit rfl rfl rfl rfl rfl rfl (Nat.le_of_ble_eq_true rfl) (c_sp_Md_note  hy7) ?_
          refine gm_p k_Md_readExit rfl rfl ?_
          refine gm_p k_Md_readExit rfl rfl ?_
          refine gm_p k_Md_readExit rfl rfl ?_
          refine gm_p k_Md_readExit rfl rfl ?_
          refine gm_p k_Md_readExit rfl rfl ?_
          refine gm_if k_Md_readExit rfl rfl rfl (fun h8 => ?_) (fun h8 => ?_)
          · skip
            exact absurd h8 h4
          · skip
            refine gm_p k_Md_readExit rfl rfl ?_
            refine gm_j k_Md_readExit rfl rfl ?_
            cases hy9 : sp_Md_makePart  7 (-1) 2 y7 with
            | none =>
              rw [hy9] at hp
              cases hp
            | some y9 =>
              rw [hy9] at hp
              dsimp only at hp
              refine gm_ivB (M' := m_Md_makePart) (As := [.int 7, .int (-1), .int 2]) k_Md_readExit rfl rfl rfl rfl rfl rfl (Nat.le_of_ble_eq_true rfl) (c_sp_Md_makePart  hy9) (fun hby9 => ?_)
              refine gm_pt k_Md_readExit rfl rfl rfl trivial (by decide) rfl ?_
              refine gm_p k_Md_readExit rfl rfl ?_
              refine gm_p k_Md_readExit rfl rfl ?_
              refine gm_g k_Md_readExit rfl rfl rfl rfl ?_
              refine gm_p k_Md_readExit rfl rfl ?_
              refine gm_p k_Md_readExit rfl rfl ?_
              refine gm_pt k_Md_readExit rfl rfl rfl trivial (by decide) rfl ?_
              refine gm_p k_Md_readExit rfl rfl ?_
              cases hp
              exact gm_ret (v := some (.int _)) k_Md_readExit rfl rfl (Or.inr rfl) rfl ⟨rfl, rfl⟩
    · skip
      rw [if_neg (show ¬ (v1 < 0) from h3)] at hp
      refine gm_p k_Md_readExit rfl rfl ?_
      refine gm_g k_Md_readExit rfl rfl rfl rfl ?_
      refine gm_p k_Md_readExit rfl rfl ?_
      by_cases g10 : gi v1 64 = true
      · rw [if_pos g10] at hp
        refine gm_ld k_Md_readExit rfl rfl (gi_in g10) (by decide) ?_
        refine gm_p k_Md_readExit rfl rfl ?_
        cases hy11 : sp_Md_see   σ with
        | none =>
          rw [hy11] at hp
          cases hp
        | some y11 =>
          rw [hy11] at hp
          dsimp only at hp
          refine gm_ivB (M' := m_Md_see) (As := []) k_Md_readExit rfl rfl rfl rfl rfl rfl (Nat.le_of_ble_eq_true rfl) (c_sp_Md_see  hy11) (fun hby11 => ?_)
          refine gm_ic k_Md_readExit rfl rfl rfl (fun h12 => ?_) (fun h12 => ?_)
          · skip
            rw [if_pos (show ((σ.2 33) v1.toNatClampNeg) = y11.1 from h12)] at hp
            refine gm_p k_Md_readExit rfl rfl ?_
            refine gm_if k_Md_readExit rfl rfl rfl (fun h13 => ?_) (fun h13 => ?_)
            · skip
              rw [if_pos (show (0 : Int32) ≤ v1 from h13)] at hp
              refine gm_p k_Md_readExit rfl rfl ?_
              refine gm_p k_Md_readExit rfl rfl ?_
              refine gm_p k_Md_readExit rfl rfl ?_
              refine gm_p k_Md_readExit rfl rfl ?_
              refine gm_p k_Md_readExit rfl rfl ?_
              refine gm_if k_Md_readExit rfl rfl rfl (fun h14 => ?_) (fun h14 => ?_)
              · skip
                refine gm_p k_Md_readExit rfl rfl ?_
                refine gm_p k_Md_readExit rfl rfl ?_
                refine gm_g k_Md_readExit rfl rfl rfl rfl ?_
                refine gm_p k_Md_readExit rfl rfl ?_
                refine gm_p k_Md_readExit rfl rfl ?_
                refine gm_p k_Md_readExit rfl rfl ?_
                cases hy15 : sp_Md_makePart  7 (-1) ((1 + (y11.2.1 32)) - v1) y11.2 with
                | none =>
                  rw [hy15] at hp
                  cases hp
                | some y15 =>
                  rw [hy15] at hp
                  dsimp only at hp
                  refine gm_ivB (M' := m_Md_makePart) (As := [.int 7, .int (-1), .int ((1 + (y11.2.1 32)) - v1)]) k_Md_readExit rfl rfl rfl rfl rfl rfl (Nat.le_of_ble_eq_true rfl) (c_sp_Md_makePart  hy15) (fun hby15 => ?_)
                  refine gm_pt k_Md_readExit rfl rfl rfl trivial (by decide) rfl ?_
                  refine gm_p k_Md_readExit rfl rfl ?_
                  refine gm_p k_Md_readExit rfl rfl ?_
                  refine gm_g k_Md_readExit rfl rfl rfl rfl ?_
                  refine gm_p k_Md_readExit rfl rfl ?_
                  refine gm_p k_Md_readExit rfl rfl ?_
                  refine gm_pt k_Md_readExit rfl rfl rfl trivial (by decide) rfl ?_
                  refine gm_p k_Md_readExit rfl rfl ?_
                  cases hp
                  exact gm_ret (v := some (.int _)) k_Md_readExit rfl rfl (Or.inr rfl) rfl ⟨rfl, rfl⟩
              · skip
                exact absurd h13 h14
            · skip
              rw [if_neg (show ¬ ((0 : Int32) ≤ v1) from h13)] at hp
              refine gm_p k_Md_readExit rfl rfl ?_
              refine gm_p k_Md_readExit rfl rfl ?_
              refine gm_p k_Md_readExit rfl rfl ?_
              refine gm_g k_Md_readExit rfl rfl rfl rfl ?_
              cases hy16 : sp_Md_note  2 (y11.2.1 27) y11.2 with
              | none =>
                rw [hy16] at hp
                cases hp
              | some y16 =>
                rw [hy16] at hp
                dsimp only at hp
                refine gm_ivV (M' := m_Md_note) (As := [.int 2, .int (y11.2.1 27)]) k_Md_readExit rfl rfl rfl rfl rfl rfl (Nat.le_of_ble_eq_true rfl) (c_sp_Md_note  hy16) ?_
                refine gm_p k_Md_readExit rfl rfl ?_
                refine gm_p k_Md_readExit rfl rfl ?_
                refine gm_p k_Md_readExit rfl rfl ?_
                refine gm_p k_Md_readExit rfl rfl ?_
                refine gm_p k_Md_readExit rfl rfl ?_
                refine gm_if k_Md_readExit rfl rfl rfl (fun h17 => ?_) (fun h17 => ?_)
                · skip
                  exact absurd h17 h13
                · skip
                  refine gm_p k_Md_readExit rfl rfl ?_
                  refine gm_j k_Md_readExit rfl rfl ?_
                  cases hy18 : sp_Md_makePart  7 (-1) 2 y16 with
                  | none =>
                    rw [hy18] at hp
                    cases hp
                  | some y18 =>
                    rw [hy18] at hp
                    dsimp only at hp
                    refine gm_ivB (M' := m_Md_makePart) (As := [.int 7, .int (-1), .int 2]) k_Md_readExit rfl rfl rfl rfl rfl rfl (Nat.le_of_ble_eq_true rfl) (c_sp_Md_makePart  hy18) (fun hby18 => ?_)
                    refine gm_pt k_Md_readExit rfl rfl rfl trivial (by decide) rfl ?_
                    refine gm_p k_Md_readExit rfl rfl ?_
                    refine gm_p k_Md_readExit rfl rfl ?_
                    refine gm_g k_Md_readExit rfl rfl rfl rfl ?_
                    refine gm_p k_Md_readExit rfl rfl ?_
                    refine gm_p k_Md_readExit rfl rfl ?_
                    refine gm_pt k_Md_readExit rfl rfl rfl trivial (by decide) rfl ?_
                    refine gm_p k_Md_readExit rfl rfl ?_
                    cases hp
                    exact gm_ret (v := some (.int _)) k_Md_readExit rfl rfl (Or.inr rfl) rfl ⟨rfl, rfl⟩
          · skip
            rw [if_neg (show ¬ (((σ.2 33) v1.toNatClampNeg) = y11.1) from h12)] at hp
            refine gm_p (L' := [some (.ref a), some (.int (v1 + (-1)))]) (st' := []) k_Md_readExit rfl rfl ?_
            refine gm_j k_Md_readExit rfl rfl ?_
            exact ihm _ _ hp
      · rw [if_neg g10] at hp
        cases hp
def sp_Md_readExit   (σ : gm_S) : Option (Int32 × gm_S) := (match sp_Md_see   σ with
  | none => none
  | some y1 => (if (q_in y1.1 65 90) = 0 then some (0, y1.2) else sp_Md_readExit_23   2601 ((y1.2.1 32) - 1) y1.2))
theorem c_sp_Md_readExit   {σ : gm_S} {r : Int32 × gm_S} (hp : sp_Md_readExit   σ = some r) : gm_Has l F (d + 1) m_Md_readExit a A [] σ (fun w σ' => w = some (.int r.1) ∧ σ' = r.2) := by
  refine gm_meth (k := 1) (L := [some (.ref a), none]) pn_Md rfl (Nat.le_of_ble_eq_true rfl) ?_
  unfold sp_Md_readExit at hp
  refine gm_p k_Md_readExit rfl rfl ?_
  cases hy1 : sp_Md_see   σ with
  | none =>
    rw [hy1] at hp
    cases hp
  | some y1 =>
    rw [hy1] at hp
    dsimp only at hp
    refine gm_ivB (M' := m_Md_see) (As := []) k_Md_readExit rfl rfl rfl rfl rfl rfl (Nat.le_of_ble_eq_true rfl) (c_sp_Md_see  hy1) (fun hby1 => ?_)
    refine gm_p k_Md_readExit rfl rfl ?_
    refine gm_p k_Md_readExit rfl rfl ?_
    refine gm_is (M' := m_Md_in) (As := [.int y1.1, .int 65, .int 90]) k_Md_readExit rfl rfl rfl rfl rfl rfl (Nat.le_of_ble_eq_true rfl) (fun h => c_Md_inQ y1.1 65 90 h) ?_
    refine gm_if k_Md_readExit rfl rfl rfl (fun h2 => ?_) (fun h2 => ?_)
    · skip
      rw [if_neg (show ¬ ((q_in y1.1 65 90) = 0) from h2)] at hp
      refine gm_p k_Md_readExit rfl rfl ?_
      refine gm_g k_Md_readExit rfl rfl rfl rfl ?_
      refine gm_p k_Md_readExit rfl rfl ?_
      refine gm_p k_Md_readExit rfl rfl ?_
      refine gm_p (L' := [some (.ref a), some (.int ((y1.2.1 32) - 1))]) (st' := []) k_Md_readExit rfl rfl ?_
      exact c_sp_Md_readExit_23   _ _ _ hp
    · skip
      rw [if_pos (show (q_in y1.1 65 90) = 0 from h2)] at hp
      refine gm_p k_Md_readExit rfl rfl ?_
      cases hp
      exact gm_ret (v := some (.int _)) k_Md_readExit rfl rfl (Or.inl rfl) rfl ⟨rfl, rfl⟩
def sp_Md_readLocal (f : gm_S → Option (Int32 × gm_S)) (v1 : Int32) (σ : gm_S) : Option (Int32 × gm_S) := (match sp_Md_takeLetter   σ with
  | none => none
  | some y1 => (if y1.1 = (-1) then some (0, y1.2) else (if gi y1.1 26 = true then (if ((y1.2.2 31) y1.1.toNatClampNeg) = 0 then (if (y1.2.1 29) < 4 then (match sp_Md_readInner f  ((upd y1.2.1 29 ((y1.2.1 29) + 1)), (gm_up y1.2.2 31 (upd (y1.2.2 31) y1.1.toNatClampNeg 3))) with
  | none => none
  | some y6 => (if y6.1 = 0 then some (0, y6.2) else (match sp_Md_with  8 y1.1 (y6.2.1 34) (-1) ((upd y6.2.1 29 ((y6.2.1 29) - 1)), (gm_up y6.2.2 31 (upd (y6.2.2 31) y1.1.toNatClampNeg ((y1.2.2 31) y1.1.toNatClampNeg)))) with
  | none => none
  | some y8 => some (1, ((upd y8.2.1 34 y8.1), y8.2.2))))) else (match sp_Md_note  4 v1 y1.2 with
  | none => none
  | some y9 => (match sp_Md_readInner f  ((upd y9.1 29 ((y9.1 29) + 1)), (gm_up y9.2 31 (upd (y9.2 31) y1.1.toNatClampNeg 3))) with
  | none => none
  | some y10 => (if y10.1 = 0 then some (0, y10.2) else (match sp_Md_with  8 y1.1 (y10.2.1 34) (-1) ((upd y10.2.1 29 ((y10.2.1 29) - 1)), (gm_up y10.2.2 31 (upd (y10.2.2 31) y1.1.toNatClampNeg ((y9.2 31) y1.1.toNatClampNeg)))) with
  | none => none
  | some y12 => some (1, ((upd y12.2.1 34 y12.1), y12.2.2))))))) else (match sp_Md_note  2 (σ.1 27) y1.2 with
  | none => none
  | some y13 => (if (y13.1 29) < 4 then (match sp_Md_readInner f  ((upd y13.1 29 ((y13.1 29) + 1)), (gm_up y13.2 31 (upd (y13.2 31) y1.1.toNatClampNeg 3))) with
  | none => none
  | some y15 => (if y15.1 = 0 then some (0, y15.2) else (match sp_Md_with  8 y1.1 (y15.2.1 34) (-1) ((upd y15.2.1 29 ((y15.2.1 29) - 1)), (gm_up y15.2.2 31 (upd (y15.2.2 31) y1.1.toNatClampNeg ((y13.2 31) y1.1.toNatClampNeg)))) with
  | none => none
  | some y17 => some (1, ((upd y17.2.1 34 y17.1), y17.2.2))))) else (match sp_Md_note  4 v1 y13 with
  | none => none
  | some y18 => (match sp_Md_readInner f  ((upd y18.1 29 ((y18.1 29) + 1)), (gm_up y18.2 31 (upd (y18.2 31) y1.1.toNatClampNeg 3))) with
  | none => none
  | some y19 => (if y19.1 = 0 then some (0, y19.2) else (match sp_Md_with  8 y1.1 (y19.2.1 34) (-1) ((upd y19.2.1 29 ((y19.2.1 29) - 1)), (gm_up y19.2.2 31 (upd (y19.2.2 31) y1.1.toNatClampNeg ((y18.2 31) y1.1.toNatClampNeg)))) with
  | none => none
  | some y21 => some (1, ((upd y21.2.1 34 y21.1), y21.2.2))))))))) else none)))
theorem c_sp_Md_readLocal (hf : mr_IH l F a A D f) (hD : D ≤ d) {v1 : Int32} {σ : gm_S} {r : Int32 × gm_S} (hp : sp_Md_readLocal f v1 σ = some r) : gm_Has l F (d + 3) m_Md_readLocal a A [.int v1] σ (fun w σ' => w = some (.int r.1) ∧ σ' = r.2) := by
  refine gm_meth (k := 3) (L := [some (.ref a), some (.int v1), none, none, none]) pn_Md rfl (Nat.le_of_ble_eq_true rfl) ?_
  unfold sp_Md_readLocal at hp
  refine gm_p k_Md_readLocal rfl rfl ?_
  refine gm_g k_Md_readLocal rfl rfl rfl rfl ?_
  refine gm_p (L' := [some (.ref a), some (.int v1), some (.int (σ.1 27)), none, none]) (st' := []) k_Md_readLocal rfl rfl ?_
  refine gm_p k_Md_readLocal rfl rfl ?_
  cases hy1 : sp_Md_takeLetter   σ with
  | none =>
    rw [hy1] at hp
    cases hp
  | some y1 =>
    rw [hy1] at hp
    dsimp only at hp
    refine gm_ivB (M' := m_Md_takeLetter) (As := []) k_Md_readLocal rfl rfl rfl rfl rfl rfl (Nat.le_of_ble_eq_true rfl) (c_sp_Md_takeLetter  hy1) (fun hby1 => ?_)
    refine gm_p (L' := [some (.ref a), some (.int v1), some (.int (σ.1 27)), some (.int y1.1), none]) (st' := []) k_Md_readLocal rfl rfl ?_
    refine gm_p k_Md_readLocal rfl rfl ?_
    refine gm_p k_Md_readLocal rfl rfl ?_
    refine gm_ic k_Md_readLocal rfl rfl rfl (fun h2 => ?_) (fun h2 => ?_)
    · skip
      rw [if_neg (show ¬ (y1.1 = (-1)) from h2)] at hp
      refine gm_p k_Md_readLocal rfl rfl ?_
      refine gm_g k_Md_readLocal rfl rfl rfl rfl ?_
      refine gm_p k_Md_readLocal rfl rfl ?_
      by_cases g3 : gi y1.1 26 = true
      · rw [if_pos g3] at hp
        refine gm_ld k_Md_readLocal rfl rfl (gi_in g3) (by decide) ?_
        refine gm_if k_Md_readLocal rfl rfl rfl (fun h4 => ?_) (fun h4 => ?_)
        · skip
          rw [if_pos (show ((y1.2.2 31) y1.1.toNatClampNeg) = 0 from h4)] at hp
          refine gm_p k_Md_readLocal rfl rfl ?_
          refine gm_g k_Md_readLocal rfl rfl rfl rfl ?_
          refine gm_p k_Md_readLocal rfl rfl ?_
          refine gm_ic k_Md_readLocal rfl rfl rfl (fun h5 => ?_) (fun h5 => ?_)
          · skip
            rw [if_pos (show (y1.2.1 29) < 4 from h5)] at hp
            refine gm_p k_Md_readLocal rfl rfl ?_
            refine gm_g k_Md_readLocal rfl rfl rfl rfl ?_
            refine gm_p k_Md_readLocal rfl rfl ?_
            refine gm_ld k_Md_readLocal rfl rfl (gi_in g3) (by decide) ?_
            refine gm_p (L' := [some (.ref a), some (.int v1), some (.int (σ.1 27)), some (.int y1.1), some (.int ((y1.2.2 31) y1.1.toNatClampNeg))]) (st' := []) k_Md_readLocal rfl rfl ?_
            refine gm_p k_Md_readLocal rfl rfl ?_
            refine gm_g k_Md_readLocal rfl rfl rfl rfl ?_
            refine gm_p k_Md_readLocal rfl rfl ?_
            refine gm_p k_Md_readLocal rfl rfl ?_
            refine gm_sto k_Md_readLocal rfl rfl (gi_in g3) (by decide) ?_
            refine gm_p k_Md_readLocal rfl rfl ?_
            refine gm_p k_Md_readLocal rfl rfl ?_
            refine gm_g k_Md_readLocal rfl rfl rfl rfl ?_
            refine gm_p k_Md_readLocal rfl rfl ?_
            refine gm_p k_Md_readLocal rfl rfl ?_
            refine gm_pt k_Md_readLocal rfl rfl rfl trivial (by decide) rfl ?_
            refine gm_p k_Md_readLocal rfl rfl ?_
            cases hy6 : sp_Md_readInner f  ((upd y1.2.1 29 ((y1.2.1 29) + 1)), (gm_up y1.2.2 31 (upd (y1.2.2 31) y1.1.toNatClampNeg 3))) with
            | none =>
              rw [hy6] at hp
              cases hp
            | some y6 =>
              rw [hy6] at hp
              dsimp only at hp
              refine gm_ivB (M' := m_Md_readInner) (As := []) k_Md_readLocal rfl rfl rfl rfl rfl rfl (Nat.le_of_ble_eq_true rfl) (c_sp_Md_readInner hf (by omega) hy6) (fun hby6 => ?_)
              refine gm_if k_Md_readLocal rfl rfl rfl (fun h7 => ?_) (fun h7 => ?_)
              · skip
                rw [if_neg (show ¬ (y6.1 = 0) from h7)] at hp
                refine gm_p k_Md_readLocal rfl rfl ?_
                refine gm_p k_Md_readLocal rfl rfl ?_
                refine gm_g k_Md_readLocal rfl rfl rfl rfl ?_
                refine gm_p k_Md_readLocal rfl rfl ?_
                refine gm_p k_Md_readLocal rfl rfl ?_
                refine gm_pt k_Md_readLocal rfl rfl rfl trivial (by decide) rfl ?_
                refine gm_p k_Md_readLocal rfl rfl ?_
                refine gm_g k_Md_readLocal rfl rfl rfl rfl ?_
                refine gm_p k_Md_readLocal rfl rfl ?_
                refine gm_p k_Md_readLocal rfl rfl ?_
                refine gm_sto k_Md_readLocal rfl rfl (gi_in g3) (by decide) ?_
                refine gm_p k_Md_readLocal rfl rfl ?_
                refine gm_p k_Md_readLocal rfl rfl ?_
                refine gm_p k_Md_readLocal rfl rfl ?_
                refine gm_p k_Md_readLocal rfl rfl ?_
                refine gm_p k_Md_readLocal rfl rfl ?_
                refine gm_g k_Md_readLocal rfl rfl rfl rfl ?_
                refine gm_p k_Md_readLocal rfl rfl ?_
                cases hy8 : sp_Md_with  8 y1.1 (y6.2.1 34) (-1) ((upd y6.2.1 29 ((y6.2.1 29) - 1)), (gm_up y6.2.2 31 (upd (y6.2.2 31) y1.1.toNatClampNeg ((y1.2.2 31) y1.1.toNatClampNeg)))) with
                | none =>
                  rw [hy8] at hp
                  cases hp
                | some y8 =>
                  rw [hy8] at hp
                  dsimp only at hp
                  refine gm_ivB (M' := m_Md_with) (As := [.int 8, .int y1.1, .int (y6.2.1 34), .int (-1)]) k_Md_readLocal rfl rfl rfl rfl rfl rfl (Nat.le_of_ble_eq_true rfl) (c_sp_Md_with  hy8) (fun hby8 => ?_)
                  refine gm_pt k_Md_readLocal rfl rfl rfl trivial (by decide) rfl ?_
                  refine gm_p k_Md_readLocal rfl rfl ?_
                  cases hp
                  exact gm_ret (v := some (.int _)) k_Md_readLocal rfl rfl (Or.inr rfl) rfl ⟨rfl, rfl⟩
              · skip
                rw [if_pos (show y6.1 = 0 from h7)] at hp
                refine gm_p k_Md_readLocal rfl rfl ?_
                cases hp
                exact gm_ret (v := some (.int _)) k_Md_readLocal rfl rfl (Or.inl rfl) rfl ⟨rfl, rfl⟩
          · skip
            rw [if_neg (show ¬ ((y1.2.1 29) < 4) from h5)] at hp
            refine gm_p k_Md_readLocal rfl rfl ?_
            refine gm_p k_Md_readLocal rfl rfl ?_
            refine gm_p k_Md_readLocal rfl rfl ?_
            cases hy9 : sp_Md_note  4 v1 y1.2 with
            | none =>
              rw [hy9] at hp
              cases hp
            | some y9 =>
              rw [hy9] at hp
              dsimp only at hp
              refine gm_ivV (M' := m_Md_note) (As := [.int 4, .int v1]) k_Md_readLocal rfl rfl rfl rfl rfl rfl (Nat.le_of_ble_eq_true rfl) (c_sp_Md_note  hy9) ?_
              refine gm_p k_Md_readLocal rfl rfl ?_
              refine gm_g k_Md_readLocal rfl rfl rfl rfl ?_
              refine gm_p k_Md_readLocal rfl rfl ?_
              refine gm_ld k_Md_readLocal rfl rfl (gi_in g3) (by decide) ?_
              refine gm_p (L' := [some (.ref a), some (.int v1), some (.int (σ.1 27)), some (.int y1.1), some (.int ((y9.2 31) y1.1.toNatClampNeg))]) (st' := []) k_Md_readLocal rfl rfl ?_
              refine gm_p k_Md_readLocal rfl rfl ?_
              refine gm_g k_Md_readLocal rfl rfl rfl rfl ?_
              refine gm_p k_Md_readLocal rfl rfl ?_
              refine gm_p k_Md_readLocal rfl rfl ?_
              refine gm_sto k_Md_readLocal rfl rfl (gi_in g3) (by decide) ?_
              refine gm_p k_Md_readLocal rfl rfl ?_
              refine gm_p k_Md_readLocal rfl rfl ?_
              refine gm_g k_Md_readLocal rfl rfl rfl rfl ?_
              refine gm_p k_Md_readLocal rfl rfl ?_
              refine gm_p k_Md_readLocal rfl rfl ?_
              refine gm_pt k_Md_readLocal rfl rfl rfl trivial (by decide) rfl ?_
              refine gm_p k_Md_readLocal rfl rfl ?_
              cases hy10 : sp_Md_readInner f  ((upd y9.1 29 ((y9.1 29) + 1)), (gm_up y9.2 31 (upd (y9.2 31) y1.1.toNatClampNeg 3))) with
              | none =>
                rw [hy10] at hp
                cases hp
              | some y10 =>
                rw [hy10] at hp
                dsimp only at hp
                refine gm_ivB (M' := m_Md_readInner) (As := []) k_Md_readLocal rfl rfl rfl rfl rfl rfl (Nat.le_of_ble_eq_true rfl) (c_sp_Md_readInner hf (by omega) hy10) (fun hby10 => ?_)
                refine gm_if k_Md_readLocal rfl rfl rfl (fun h11 => ?_) (fun h11 => ?_)
                · skip
                  rw [if_neg (show ¬ (y10.1 = 0) from h11)] at hp
                  refine gm_p k_Md_readLocal rfl rfl ?_
                  refine gm_p k_Md_readLocal rfl rfl ?_
                  refine gm_g k_Md_readLocal rfl rfl rfl rfl ?_
                  refine gm_p k_Md_readLocal rfl rfl ?_
                  refine gm_p k_Md_readLocal rfl rfl ?_
                  refine gm_pt k_Md_readLocal rfl rfl rfl trivial (by decide) rfl ?_
                  refine gm_p k_Md_readLocal rfl rfl ?_
                  refine gm_g k_Md_readLocal rfl rfl rfl rfl ?_
                  refine gm_p k_Md_readLocal rfl rfl ?_
                  refine gm_p k_Md_readLocal rfl rfl ?_
                  refine gm_sto k_Md_readLocal rfl rfl (gi_in g3) (by decide) ?_
                  refine gm_p k_Md_readLocal rfl rfl ?_
                  refine gm_p k_Md_readLocal rfl rfl ?_
                  refine gm_p k_Md_readLocal rfl rfl ?_
                  refine gm_p k_Md_readLocal rfl rfl ?_
                  refine gm_p k_Md_readLocal rfl rfl ?_
                  refine gm_g k_Md_readLocal rfl rfl rfl rfl ?_
                  refine gm_p k_Md_readLocal rfl rfl ?_
                  cases hy12 : sp_Md_with  8 y1.1 (y10.2.1 34) (-1) ((upd y10.2.1 29 ((y10.2.1 29) - 1)), (gm_up y10.2.2 31 (upd (y10.2.2 31) y1.1.toNatClampNeg ((y9.2 31) y1.1.toNatClampNeg)))) with
                  | none =>
                    rw [hy12] at hp
                    cases hp
                  | some y12 =>
                    rw [hy12] at hp
                    dsimp only at hp
                    refine gm_ivB (M' := m_Md_with) (As := [.int 8, .int y1.1, .int (y10.2.1 34), .int (-1)]) k_Md_readLocal rfl rfl rfl rfl rfl rfl (Nat.le_of_ble_eq_true rfl) (c_sp_Md_with  hy12) (fun hby12 => ?_)
                    refine gm_pt k_Md_readLocal rfl rfl rfl trivial (by decide) rfl ?_
                    refine gm_p k_Md_readLocal rfl rfl ?_
                    cases hp
                    exact gm_ret (v := some (.int _)) k_Md_readLocal rfl rfl (Or.inr rfl) rfl ⟨rfl, rfl⟩
                · skip
                  rw [if_pos (show y10.1 = 0 from h11)] at hp
                  refine gm_p k_Md_readLocal rfl rfl ?_
                  cases hp
                  exact gm_ret (v := some (.int _)) k_Md_readLocal rfl rfl (Or.inl rfl) rfl ⟨rfl, rfl⟩
        · skip
          rw [if_neg (show ¬ (((y1.2.2 31) y1.1.toNatClampNeg) = 0) from h4)] at hp
          refine gm_p k_Md_readLocal rfl rfl ?_
          refine gm_p k_Md_readLocal rfl rfl ?_
          refine gm_p k_Md_readLocal rfl rfl ?_
          cases hy13 : sp_Md_note  2 (σ.1 27) y1.2 with
          | none =>
            rw [hy13] at hp
            cases hp
          | some y13 =>
            rw [hy13] at hp
            dsimp only at hp
            refine gm_ivV (M' := m_Md_note) (As := [.int 2, .int (σ.1 27)]) k_Md_readLocal rfl rfl rfl rfl rfl rfl (Nat.le_of_ble_eq_true rfl) (c_sp_Md_note  hy13) ?_
            refine gm_p k_Md_readLocal rfl rfl ?_
            refine gm_g k_Md_readLocal rfl rfl rfl rfl ?_
            refine gm_p k_Md_readLocal rfl rfl ?_
            refine gm_ic k_Md_readLocal rfl rfl rfl (fun h14 => ?_) (fun h14 => ?_)
            · skip
              rw [if_pos (show (y13.1 29) < 4 from h14)] at hp
              refine gm_p k_Md_readLocal rfl rfl ?_
              refine gm_g k_Md_readLocal rfl rfl rfl rfl ?_
              refine gm_p k_Md_readLocal rfl rfl ?_
              refine gm_ld k_Md_readLocal rfl rfl (gi_in g3) (by decide) ?_
              refine gm_p (L' := [some (.ref a), some (.int v1), some (.int (σ.1 27)), some (.int y1.1), some (.int ((y13.2 31) y1.1.toNatClampNeg))]) (st' := []) k_Md_readLocal rfl rfl ?_
              refine gm_p k_Md_readLocal rfl rfl ?_
              refine gm_g k_Md_readLocal rfl rfl rfl rfl ?_
              refine gm_p k_Md_readLocal rfl rfl ?_
              refine gm_p k_Md_readLocal rfl rfl ?_
              refine gm_sto k_Md_readLocal rfl rfl (gi_in g3) (by decide) ?_
              refine gm_p k_Md_readLocal rfl rfl ?_
              refine gm_p k_Md_readLocal rfl rfl ?_
              refine gm_g k_Md_readLocal rfl rfl rfl rfl ?_
              refine gm_p k_Md_readLocal rfl rfl ?_
              refine gm_p k_Md_readLocal rfl rfl ?_
              refine gm_pt k_Md_readLocal rfl rfl rfl trivial (by decide) rfl ?_
              refine gm_p k_Md_readLocal rfl rfl ?_
              cases hy15 : sp_Md_readInner f  ((upd y13.1 29 ((y13.1 29) + 1)), (gm_up y13.2 31 (upd (y13.2 31) y1.1.toNatClampNeg 3))) with
              | none =>
                rw [hy15] at hp
                cases hp
              | some y15 =>
                rw [hy15] at hp
                dsimp only at hp
                refine gm_ivB (M' := m_Md_readInner) (As := []) k_Md_readLocal rfl rfl rfl rfl rfl rfl (Nat.le_of_ble_eq_true rfl) (c_sp_Md_readInner hf (by omega) hy15) (fun hby15 => ?_)
                refine gm_if k_Md_readLocal rfl rfl rfl (fun h16 => ?_) (fun h16 => ?_)
                · skip
                  rw [if_neg (show ¬ (y15.1 = 0) from h16)] at hp
                  refine gm_p k_Md_readLocal rfl rfl ?_
                  refine gm_p k_Md_readLocal rfl rfl ?_
                  refine gm_g k_Md_readLocal rfl rfl rfl rfl ?_
                  refine gm_p k_Md_readLocal rfl rfl ?_
                  refine gm_p k_Md_readLocal rfl rfl ?_
                  refine gm_pt k_Md_readLocal rfl rfl rfl trivial (by decide) rfl ?_
                  refine gm_p k_Md_readLocal rfl rfl ?_
                  refine gm_g k_Md_readLocal rfl rfl rfl rfl ?_
                  refine gm_p k_Md_readLocal rfl rfl ?_
                  refine gm_p k_Md_readLocal rfl rfl ?_
                  refine gm_sto k_Md_readLocal rfl rfl (gi_in g3) (by decide) ?_
                  refine gm_p k_Md_readLocal rfl rfl ?_
                  refine gm_p k_Md_readLocal rfl rfl ?_
                  refine gm_p k_Md_readLocal rfl rfl ?_
                  refine gm_p k_Md_readLocal rfl rfl ?_
                  refine gm_p k_Md_readLocal rfl rfl ?_
                  refine gm_g k_Md_readLocal rfl rfl rfl rfl ?_
                  refine gm_p k_Md_readLocal rfl rfl ?_
                  cases hy17 : sp_Md_with  8 y1.1 (y15.2.1 34) (-1) ((upd y15.2.1 29 ((y15.2.1 29) - 1)), (gm_up y15.2.2 31 (upd (y15.2.2 31) y1.1.toNatClampNeg ((y13.2 31) y1.1.toNatClampNeg)))) with
                  | none =>
                    rw [hy17] at hp
                    cases hp
                  | some y17 =>
                    rw [hy17] at hp
                    dsimp only at hp
                    refine gm_ivB (M' := m_Md_with) (As := [.int 8, .int y1.1, .int (y15.2.1 34), .int (-1)]) k_Md_readLocal rfl rfl rfl rfl rfl rfl (Nat.le_of_ble_eq_true rfl) (c_sp_Md_with  hy17) (fun hby17 => ?_)
                    refine gm_pt k_Md_readLocal rfl rfl rfl trivial (by decide) rfl ?_
                    refine gm_p k_Md_readLocal rfl rfl ?_
                    cases hp
                    exact gm_ret (v := some (.int _)) k_Md_readLocal rfl rfl (Or.inr rfl) rfl ⟨rfl, rfl⟩
                · skip
                  rw [if_pos (show y15.1 = 0 from h16)] at hp
                  refine gm_p k_Md_readLocal rfl rfl ?_
                  cases hp
                  exact gm_ret (v := some (.int _)) k_Md_readLocal rfl rfl (Or.inl rfl) rfl ⟨rfl, rfl⟩
            · skip
              rw [if_neg (show ¬ ((y13.1 29) < 4) from h14)] at hp
              refine gm_p k_Md_readLocal rfl rfl ?_
              refine gm_p k_Md_readLocal rfl rfl ?_
              refine gm_p k_Md_readLocal rfl rfl ?_
              cases hy18 : sp_Md_note  4 v1 y13 with
              | none =>
                rw [hy18] at hp
                cases hp
              | some y18 =>
                rw [hy18] at hp
                dsimp only at hp
                refine gm_ivV (M' := m_Md_note) (As := [.int 4, .int v1]) k_Md_readLocal rfl rfl rfl rfl rfl rfl (Nat.le_of_ble_eq_true rfl) (c_sp_Md_note  hy18) ?_
                refine gm_p k_Md_readLocal rfl rfl ?_
                refine gm_g k_Md_readLocal rfl rfl rfl rfl ?_
                refine gm_p k_Md_readLocal rfl rfl ?_
                refine gm_ld k_Md_readLocal rfl rfl (gi_in g3) (by decide) ?_
                refine gm_p (L' := [some (.ref a), some (.int v1), some (.int (σ.1 27)), some (.int y1.1), some (.int ((y18.2 31) y1.1.toNatClampNeg))]) (st' := []) k_Md_readLocal rfl rfl ?_
                refine gm_p k_Md_readLocal rfl rfl ?_
                refine gm_g k_Md_readLocal rfl rfl rfl rfl ?_
                refine gm_p k_Md_readLocal rfl rfl ?_
                refine gm_p k_Md_readLocal rfl rfl ?_
                refine gm_sto k_Md_readLocal rfl rfl (gi_in g3) (by decide) ?_
                refine gm_p k_Md_readLocal rfl rfl ?_
                refine gm_p k_Md_readLocal rfl rfl ?_
                refine gm_g k_Md_readLocal rfl rfl rfl rfl ?_
                refine gm_p k_Md_readLocal rfl rfl ?_
                refine gm_p k_Md_readLocal rfl rfl ?_
                refine gm_pt k_Md_readLocal rfl rfl rfl trivial (by decide) rfl ?_
                refine gm_p k_Md_readLocal rfl rfl ?_
                cases hy19 : sp_Md_readInner f  ((upd y18.1 29 ((y18.1 29) + 1)), (gm_up y18.2 31 (upd (y18.2 31) y1.1.toNatClampNeg 3))) with
                | none =>
                  rw [hy19] at hp
                  cases hp
                | some y19 =>
                  rw [hy19] at hp
                  dsimp only at hp
                  refine gm_ivB (M' := m_Md_readInner) (As := []) k_Md_readLocal rfl rfl rfl rfl rfl rfl (Nat.le_of_ble_eq_true rfl) (c_sp_Md_readInner hf (by omega) hy19) (fun hby19 => ?_)
                  refine gm_if k_Md_readLocal rfl rfl rfl (fun h20 => ?_) (fun h20 => ?_)
                  · skip
                    rw [if_neg (show ¬ (y19.1 = 0) from h20)] at hp
                    refine gm_p k_Md_readLocal rfl rfl ?_
                    refine gm_p k_Md_readLocal rfl rfl ?_
                    refine gm_g k_Md_readLocal rfl rfl rfl rfl ?_
                    refine gm_p k_Md_readLocal rfl rfl ?_
                    refine gm_p k_Md_readLocal rfl rfl ?_
                    refine gm_pt k_Md_readLocal rfl rfl rfl trivial (by decide) rfl ?_
                    refine gm_p k_Md_readLocal rfl rfl ?_
                    refine gm_g k_Md_readLocal rfl rfl rfl rfl ?_
                    refine gm_p k_Md_readLocal rfl rfl ?_
                    refine gm_p k_Md_readLocal rfl rfl ?_
                    refine gm_sto k_Md_readLocal rfl rfl (gi_in g3) (by decide) ?_
                    refine gm_p k_Md_readLocal rfl rfl ?_
                    refine gm_p k_Md_readLocal rfl rfl ?_
                    refine gm_p k_Md_readLocal rfl rfl ?_
                    refine gm_p k_Md_readLocal rfl rfl ?_
                    refine gm_p k_Md_readLocal rfl rfl ?_
                    refine gm_g k_Md_readLocal rfl rfl rfl rfl ?_
                    refine gm_p k_Md_readLocal rfl rfl ?_
                    cases hy21 : sp_Md_with  8 y1.1 (y19.2.1 34) (-1) ((upd y19.2.1 29 ((y19.2.1 29) - 1)), (gm_up y19.2.2 31 (upd (y19.2.2 31) y1.1.toNatClampNeg ((y18.2 31) y1.1.toNatClampNeg)))) with
                    | none =>
                      rw [hy21] at hp
                      cases hp
                    | some y21 =>
                      rw [hy21] at hp
                      dsimp only at hp
                      refine gm_ivB (M' := m_Md_with) (As := [.int 8, .int y1.1, .int (y19.2.1 34), .int (-1)]) k_Md_readLocal rfl rfl rfl rfl rfl rfl (Nat.le_of_ble_eq_true rfl) (c_sp_Md_with  hy21) (fun hby21 => ?_)
                      refine gm_pt k_Md_readLocal rfl rfl rfl trivial (by decide) rfl ?_
                      refine gm_p k_Md_readLocal rfl rfl ?_
                      cases hp
                      exact gm_ret (v := some (.int _)) k_Md_readLocal rfl rfl (Or.inr rfl) rfl ⟨rfl, rfl⟩
                  · skip
                    rw [if_pos (show y19.1 = 0 from h20)] at hp
                    refine gm_p k_Md_readLocal rfl rfl ?_
                    cases hp
                    exact gm_ret (v := some (.int _)) k_Md_readLocal rfl rfl (Or.inl rfl) rfl ⟨rfl, rfl⟩
      · rw [if_neg g3] at hp
        cases hp
    · skip
      rw [if_pos (show y1.1 = (-1) from h2)] at hp
      refine gm_p k_Md_readLocal rfl rfl ?_
      cases hp
      exact gm_ret (v := some (.int _)) k_Md_readLocal rfl rfl (Or.inl rfl) rfl ⟨rfl, rfl⟩
def sp_Md_readAbort (f : gm_S → Option (Int32 × gm_S)) (v1 : Int32) (v2 : Int32) (σ : gm_S) : Option (Int32 × gm_S) := (match sp_Md_isNamed  0 σ with
  | none => none
  | some y1 => (if y1.1 = 0 then some (0, y1.2) else (if gi (y1.2.1 32) 64 = true then (match sp_Md_readInner f  ((upd y1.2.1 32 ((y1.2.1 32) + 1)), (gm_up y1.2.2 33 (upd (y1.2.2 33) (y1.2.1 32).toNatClampNeg 0))) with
  | none => none
  | some y4 => (if y4.1 = 0 then some (0, y4.2) else (if v2 = 0 then (match sp_Md_makePart  7 (-1) 2 ((upd y4.2.1 32 ((y4.2.1 32) - 1)), y4.2.2) with
  | none => none
  | some y7 => (match sp_Md_with  9 (-1) (y4.2.1 34) y7.1 y7.2 with
  | none => none
  | some y8 => (match sp_Md_waiting  (y1.2.1 35) v1 y8.2 with
  | none => none
  | some y9 => (match sp_Md_with  10 (-1) y8.1 y9.1 y9.2 with
  | none => none
  | some y10 => (match sp_Md_with  6 (-1) y10.1 (-1) y10.2 with
  | none => none
  | some y11 => some (1, ((upd y11.2.1 34 y11.1), y11.2.2))))))) else (match sp_Md_with  5 (y1.2.1 35) (y4.2.1 34) (-1) ((upd y4.2.1 32 ((y4.2.1 32) - 1)), y4.2.2) with
  | none => none
  | some y12 => (match sp_Md_makePart  7 (-1) 2 y12.2 with
  | none => none
  | some y13 => (match sp_Md_with  9 (-1) y12.1 y13.1 y13.2 with
  | none => none
  | some y14 => (match sp_Md_waiting  (y1.2.1 35) v1 y14.2 with
  | none => none
  | some y15 => (match sp_Md_with  10 (-1) y14.1 y15.1 y15.2 with
  | none => none
  | some y16 => (match sp_Md_with  6 (-1) y16.1 (-1) y16.2 with
  | none => none
  | some y17 => some (1, ((upd y17.2.1 34 y17.1), y17.2.2))))))))))) else none)))
theorem c_sp_Md_readAbort (hf : mr_IH l F a A D f) (hD : D ≤ d) {v1 : Int32} {v2 : Int32} {σ : gm_S} {r : Int32 × gm_S} (hp : sp_Md_readAbort f v1 v2 σ = some r) : gm_Has l F (d + 4) m_Md_readAbort a A [.int v1, .int v2] σ (fun w σ' => w = some (.int r.1) ∧ σ' = r.2) := by
  refine gm_meth (k := 5) (L := [some (.ref a), some (.int v1), some (.int v2), none, none, none, none, none]) pn_Md rfl (Nat.le_of_ble_eq_true rfl) ?_
  unfold sp_Md_readAbort at hp
  refine gm_p k_Md_readAbort rfl rfl ?_
  refine gm_p k_Md_readAbort rfl rfl ?_
  cases hy1 : sp_Md_isNamed  0 σ with
  | none =>
    rw [hy1] at hp
    cases hp
  | some y1 =>
    rw [hy1] at hp
    dsimp only at hp
    refine gm_ivB (M' := m_Md_isNamed) (As := [.int 0]) k_Md_readAbort rfl rfl rfl rfl rfl rfl (Nat.le_of_ble_eq_true rfl) (c_sp_Md_isNamed  hy1) (fun hby1 => ?_)
    refine gm_if k_Md_readAbort rfl rfl rfl (fun h2 => ?_) (fun h2 => ?_)
    · skip
      rw [if_neg (show ¬ (y1.1 = 0) from h2)] at hp
      refine gm_p k_Md_readAbort rfl rfl ?_
      refine gm_g k_Md_readAbort rfl rfl rfl rfl ?_
      refine gm_p (L' := [some (.ref a), some (.int v1), some (.int v2), some (.int (y1.2.1 35)), none, none, none, none]) (st' := []) k_Md_readAbort rfl rfl ?_
      refine gm_p k_Md_readAbort rfl rfl ?_
      refine gm_g k_Md_readAbort rfl rfl rfl rfl ?_
      refine gm_p k_Md_readAbort rfl rfl ?_
      refine gm_g k_Md_readAbort rfl rfl rfl rfl ?_
      refine gm_p k_Md_readAbort rfl rfl ?_
      by_cases g3 : gi (y1.2.1 32) 64 = true
      · rw [if_pos g3] at hp
        refine gm_sto k_Md_readAbort rfl rfl (gi_in g3) (by decide) ?_
        refine gm_p k_Md_readAbort rfl rfl ?_
        refine gm_p k_Md_readAbort rfl rfl ?_
        refine gm_g k_Md_readAbort rfl rfl rfl rfl ?_
        refine gm_p k_Md_readAbort rfl rfl ?_
        refine gm_p k_Md_readAbort rfl rfl ?_
        refine gm_pt k_Md_readAbort rfl rfl rfl trivial (by decide) rfl ?_
        refine gm_p k_Md_readAbort rfl rfl ?_
        cases hy4 : sp_Md_readInner f  ((upd y1.2.1 32 ((y1.2.1 32) + 1)), (gm_up y1.2.2 33 (upd (y1.2.2 33) (y1.2.1 32).toNatClampNeg 0))) with
        | none =>
          rw [hy4] at hp
          cases hp
        | some y4 =>
          rw [hy4] at hp
          dsimp only at hp
          refine gm_ivB (M' := m_Md_readInner) (As := []) k_Md_readAbort rfl rfl rfl rfl rfl rfl (Nat.le_of_ble_eq_true rfl) (c_sp_Md_readInner hf (by omega) hy4) (fun hby4 => ?_)
          refine gm_if k_Md_readAbort rfl rfl rfl (fun h5 => ?_) (fun h5 => ?_)
          · skip
            rw [if_neg (show ¬ (y4.1 = 0) from h5)] at hp
            refine gm_p k_Md_readAbort rfl rfl ?_
            refine gm_p k_Md_readAbort rfl rfl ?_
            refine gm_g k_Md_readAbort rfl rfl rfl rfl ?_
            refine gm_p k_Md_readAbort rfl rfl ?_
            refine gm_p k_Md_readAbort rfl rfl ?_
            refine gm_pt k_Md_readAbort rfl rfl rfl trivial (by decide) rfl ?_
            refine gm_p k_Md_readAbort rfl rfl ?_
            refine gm_if k_Md_readAbort rfl rfl rfl (fun h6 => ?_) (fun h6 => ?_)
            · skip
              rw [if_pos (show v2 = 0 from h6)] at hp
              refine gm_p k_Md_readAbort rfl rfl ?_
              refine gm_g k_Md_readAbort rfl rfl rfl rfl ?_
              refine gm_p (L' := [some (.ref a), some (.int v1), some (.int v2), some (.int (y1.2.1 35)), some (.int (y4.2.1 34)), none, none, none]) (st' := []) k_Md_readAbort rfl rfl ?_
              refine gm_p k_Md_readAbort rfl rfl ?_
              refine gm_p k_Md_readAbort rfl rfl ?_
              refine gm_p k_Md_readAbort rfl rfl ?_
              refine gm_p k_Md_readAbort rfl rfl ?_
              cases hy7 : sp_Md_makePart  7 (-1) 2 ((upd y4.2.1 32 ((y4.2.1 32) - 1)), y4.2.2) with
              | none =>
                rw [hy7] at hp
                cases hp
              | some y7 =>
                rw [hy7] at hp
                dsimp only at hp
                refine gm_ivB (M' := m_Md_makePart) (As := [.int 7, .int (-1), .int 2]) k_Md_readAbort rfl rfl rfl rfl rfl rfl (Nat.le_of_ble_eq_true rfl) (c_sp_Md_makePart  hy7) (fun hby7 => ?_)
                refine gm_p (L' := [some (.ref a), some (.int v1), some (.int v2), some (.int (y1.2.1 35)), some (.int (y4.2.1 34)), some (.int y7.1), none, none]) (st' := []) k_Md_readAbort rfl rfl ?_
                refine gm_p k_Md_readAbort rfl rfl ?_
                refine gm_p k_Md_readAbort rfl rfl ?_
                refine gm_p k_Md_readAbort rfl rfl ?_
                refine gm_p k_Md_readAbort rfl rfl ?_
                refine gm_p k_Md_readAbort rfl rfl ?_
                cases hy8 : sp_Md_with  9 (-1) (y4.2.1 34) y7.1 y7.2 with
                | none =>
                  rw [hy8] at hp
                  cases hp
                | some y8 =>
                  rw [hy8] at hp
                  dsimp only at hp
                  refine gm_ivB (M' := m_Md_with) (As := [.int 9, .int (-1), .int (y4.2.1 34), .int y7.1]) k_Md_readAbort rfl rfl rfl rfl rfl rfl (Nat.le_of_ble_eq_true rfl) (c_sp_Md_with  hy8) (fun hby8 => ?_)
                  refine gm_p (L' := [some (.ref a), some (.int v1), some (.int v2), some (.int (y1.2.1 35)), some (.int (y4.2.1 34)), some (.int y7.1), some (.int y8.1), none]) (st' := []) k_Md_readAbort rfl rfl ?_
                  refine gm_p k_Md_readAbort rfl rfl ?_
                  refine gm_p k_Md_readAbort rfl rfl ?_
                  refine gm_p k_Md_readAbort rfl rfl ?_
                  cases hy9 : sp_Md_waiting  (y1.2.1 35) v1 y8.2 with
                  | none =>
                    rw [hy9] at hp
                    cases hp
                  | some y9 =>
                    rw [hy9] at hp
                    dsimp only at hp
                    refine gm_ivB (M' := m_Md_waiting) (As := [.int (y1.2.1 35), .int v1]) k_Md_readAbort rfl rfl rfl rfl rfl rfl (Nat.le_of_ble_eq_true rfl) (c_sp_Md_waiting  hy9) (fun hby9 => ?_)
                    refine gm_p (L' := [some (.ref a), some (.int v1), some (.int v2), some (.int (y1.2.1 35)), some (.int (y4.2.1 34)), some (.int y7.1), some (.int y8.1), some (.int y9.1)]) (st' := []) k_Md_readAbort rfl rfl ?_
                    refine gm_p k_Md_readAbort rfl rfl ?_
                    refine gm_p k_Md_readAbort rfl rfl ?_
                    refine gm_p k_Md_readAbort rfl rfl ?_
                    refine gm_p k_Md_readAbort rfl rfl ?_
                    refine gm_p k_Md_readAbort rfl rfl ?_
                    refine gm_p k_Md_readAbort rfl rfl ?_
                    refine gm_p k_Md_readAbort rfl rfl ?_
                    refine gm_p k_Md_readAbort rfl rfl ?_
                    refine gm_p k_Md_readAbort rfl rfl ?_
                    cases hy10 : sp_Md_with  10 (-1) y8.1 y9.1 y9.2 with
                    | none =>
                      rw [hy10] at hp
                      cases hp
                    | some y10 =>
                      rw [hy10] at hp
                      dsimp only at hp
                      refine gm_ivB (M' := m_Md_with) (As := [.int 10, .int (-1), .int y8.1, .int y9.1]) k_Md_readAbort rfl rfl rfl rfl rfl rfl (Nat.le_of_ble_eq_true rfl) (c_sp_Md_with  hy10) (fun hby10 => ?_)
                      refine gm_p k_Md_readAbort rfl rfl ?_
                      cases hy11 : sp_Md_with  6 (-1) y10.1 (-1) y10.2 with
                      | none =>
                        rw [hy11] at hp
                        cases hp
                      | some y11 =>
                        rw [hy11] at hp
                        dsimp only at hp
                        refine gm_ivB (M' := m_Md_with) (As := [.int 6, .int (-1), .int y10.1, .int (-1)]) k_Md_readAbort rfl rfl rfl rfl rfl rfl (Nat.le_of_ble_eq_true rfl) (c_sp_Md_with  hy11) (fun hby11 => ?_)
                        refine gm_pt k_Md_readAbort rfl rfl rfl trivial (by decide) rfl ?_
                        refine gm_p k_Md_readAbort rfl rfl ?_
                        cases hp
                        exact gm_ret (v := some (.int _)) k_Md_readAbort rfl rfl (Or.inr rfl) rfl ⟨rfl, rfl⟩
            · skip
              rw [if_neg (show ¬ (v2 = 0) from h6)] at hp
              refine gm_p k_Md_readAbort rfl rfl ?_
              refine gm_p k_Md_readAbort rfl rfl ?_
              refine gm_p k_Md_readAbort rfl rfl ?_
              refine gm_p k_Md_readAbort rfl rfl ?_
              refine gm_g k_Md_readAbort rfl rfl rfl rfl ?_
              refine gm_p k_Md_readAbort rfl rfl ?_
              cases hy12 : sp_Md_with  5 (y1.2.1 35) (y4.2.1 34) (-1) ((upd y4.2.1 32 ((y4.2.1 32) - 1)), y4.2.2) with
              | none =>
                rw [hy12] at hp
                cases hp
              | some y12 =>
                rw [hy12] at hp
                dsimp only at hp
                refine gm_ivB (M' := m_Md_with) (As := [.int 5, .int (y1.2.1 35), .int (y4.2.1 34), .int (-1)]) k_Md_readAbort rfl rfl rfl rfl rfl rfl (Nat.le_of_ble_eq_true rfl) (c_sp_Md_with  hy12) (fun hby12 => ?_)
                refine gm_j k_Md_readAbort rfl rfl ?_
                refine gm_p (L' := [some (.ref a), some (.int v1), some (.int v2), some (.int (y1.2.1 35)), some (.int y12.1), none, none, none]) (st' := []) k_Md_readAbort rfl rfl ?_
                refine gm_p k_Md_readAbort rfl rfl ?_
                refine gm_p k_Md_readAbort rfl rfl ?_
                refine gm_p k_Md_readAbort rfl rfl ?_
                refine gm_p k_Md_readAbort rfl rfl ?_
                cases hy13 : sp_Md_makePart  7 (-1) 2 y12.2 with
                | none =>
                  rw [hy13] at hp
                  cases hp
                | some y13 =>
                  rw [hy13] at hp
                  dsimp only at hp
                  refine gm_ivB (M' := m_Md_makePart) (As := [.int 7, .int (-1), .int 2]) k_Md_readAbort rfl rfl rfl rfl rfl rfl (Nat.le_of_ble_eq_true rfl) (c_sp_Md_makePart  hy13) (fun hby13 => ?_)
                  refine gm_p (L' := [some (.ref a), some (.int v1), some (.int v2), some (.int (y1.2.1 35)), some (.int y12.1), some (.int y13.1), none, none]) (st' := []) k_Md_readAbort rfl rfl ?_
                  refine gm_p k_Md_readAbort rfl rfl ?_
                  refine gm_p k_Md_readAbort rfl rfl ?_
                  refine gm_p k_Md_readAbort rfl rfl ?_
                  refine gm_p k_Md_readAbort rfl rfl ?_
                  refine gm_p k_Md_readAbort rfl rfl ?_
                  cases hy14 : sp_Md_with  9 (-1) y12.1 y13.1 y13.2 with
                  | none =>
                    rw [hy14] at hp
                    cases hp
                  | some y14 =>
                    rw [hy14] at hp
                    dsimp only at hp
                    refine gm_ivB (M' := m_Md_with) (As := [.int 9, .int (-1), .int y12.1, .int y13.1]) k_Md_readAbort rfl rfl rfl rfl rfl rfl (Nat.le_of_ble_eq_true rfl) (c_sp_Md_with  hy14) (fun hby14 => ?_)
                    refine gm_p (L' := [some (.ref a), some (.int v1), some (.int v2), some (.int (y1.2.1 35)), some (.int y12.1), some (.int y13.1), some (.int y14.1), none]) (st' := []) k_Md_readAbort rfl rfl ?_
                    refine gm_p k_Md_readAbort rfl rfl ?_
                    refine gm_p k_Md_readAbort rfl rfl ?_
                    refine gm_p k_Md_readAbort rfl rfl ?_
                    cases hy15 : sp_Md_waiting  (y1.2.1 35) v1 y14.2 with
                    | none =>
                      rw [hy15] at hp
                      cases hp
                    | some y15 =>
                      rw [hy15] at hp
                      dsimp only at hp
                      refine gm_ivB (M' := m_Md_waiting) (As := [.int (y1.2.1 35), .int v1]) k_Md_readAbort rfl rfl rfl rfl rfl rfl (Nat.le_of_ble_eq_true rfl) (c_sp_Md_waiting  hy15) (fun hby15 => ?_)
                      refine gm_p (L' := [some (.ref a), some (.int v1), some (.int v2), some (.int (y1.2.1 35)), some (.int y12.1), some (.int y13.1), some (.int y14.1), some (.int y15.1)]) (st' := []) k_Md_readAbort rfl rfl ?_
                      refine gm_p k_Md_readAbort rfl rfl ?_
                      refine gm_p k_Md_readAbort rfl rfl ?_
                      refine gm_p k_Md_readAbort rfl rfl ?_
                      refine gm_p k_Md_readAbort rfl rfl ?_
                      refine gm_p k_Md_readAbort rfl rfl ?_
                      refine gm_p k_Md_readAbort rfl rfl ?_
                      refine gm_p k_Md_readAbort rfl rfl ?_
                      refine gm_p k_Md_readAbort rfl rfl ?_
                      refine gm_p k_Md_readAbort rfl rfl ?_
                      cases hy16 : sp_Md_with  10 (-1) y14.1 y15.1 y15.2 with
                      | none =>
                        rw [hy16] at hp
                        cases hp
                      | some y16 =>
                        rw [hy16] at hp
                        dsimp only at hp
                        refine gm_ivB (M' := m_Md_with) (As := [.int 10, .int (-1), .int y14.1, .int y15.1]) k_Md_readAbort rfl rfl rfl rfl rfl rfl (Nat.le_of_ble_eq_true rfl) (c_sp_Md_with  hy16) (fun hby16 => ?_)
                        refine gm_p k_Md_readAbort rfl rfl ?_
                        cases hy17 : sp_Md_with  6 (-1) y16.1 (-1) y16.2 with
                        | none =>
                          rw [hy17] at hp
                          cases hp
                        | some y17 =>
                          rw [hy17] at hp
                          dsimp only at hp
                          refine gm_ivB (M' := m_Md_with) (As := [.int 6, .int (-1), .int y16.1, .int (-1)]) k_Md_readAbort rfl rfl rfl rfl rfl rfl (Nat.le_of_ble_eq_true rfl) (c_sp_Md_with  hy17) (fun hby17 => ?_)
                          refine gm_pt k_Md_readAbort rfl rfl rfl trivial (by decide) rfl ?_
                          refine gm_p k_Md_readAbort rfl rfl ?_
                          cases hp
                          exact gm_ret (v := some (.int _)) k_Md_readAbort rfl rfl (Or.inr rfl) rfl ⟨rfl, rfl⟩
          · skip
            rw [if_pos (show y4.1 = 0 from h5)] at hp
            refine gm_p k_Md_readAbort rfl rfl ?_
            cases hp
            exact gm_ret (v := some (.int _)) k_Md_readAbort rfl rfl (Or.inl rfl) rfl ⟨rfl, rfl⟩
      · rw [if_neg g3] at hp
        cases hp
    · skip
      rw [if_pos (show y1.1 = 0 from h2)] at hp
      refine gm_p k_Md_readAbort rfl rfl ?_
      cases hp
      exact gm_ret (v := some (.int _)) k_Md_readAbort rfl rfl (Or.inl rfl) rfl ⟨rfl, rfl⟩
def sp_Md_readU (f : gm_S → Option (Int32 × gm_S))  (σ : gm_S) : Option (Int32 × gm_S) := (match sp_Md_see   σ with
  | none => none
  | some y1 => (if y1.1 = 33 then (match sp_Md_isNamed  1 ((upd y1.2.1 27 ((y1.2.1 27) + 1)), y1.2.2) with
  | none => none
  | some y3 => (if y3.1 = 0 then some (0, y3.2) else (match sp_Md_makePart  2 (y3.2.1 35) 0 y3.2 with
  | none => none
  | some y5 => some (1, ((upd y5.2.1 34 y5.1), y5.2.2))))) else (if y1.1 = 35 then (match sp_Md_readSuspend f  ((upd y1.2.1 27 ((y1.2.1 27) + 1)), y1.2.2) with
  | none => none
  | some y7 => some (y7.1, y7.2)) else (if y1.1 = 36 then (match sp_Md_readTrap f  ((upd y1.2.1 27 ((y1.2.1 27) + 1)), y1.2.2) with
  | none => none
  | some y9 => some (y9.1, y9.2)) else (if y1.1 = 37 then (match sp_Md_readAbort f (y1.2.1 27) 1 ((upd y1.2.1 27 ((y1.2.1 27) + 1)), y1.2.2) with
  | none => none
  | some y11 => some (y11.1, y11.2)) else (if y1.1 = 38 then (match sp_Md_isNamed  0 ((upd y1.2.1 27 ((y1.2.1 27) + 1)), y1.2.2) with
  | none => none
  | some y13 => (if y13.1 = 0 then some (0, y13.2) else (match sp_Md_waiting  (y13.2.1 35) (y1.2.1 27) y13.2 with
  | none => none
  | some y15 => (match sp_Md_with  6 (-1) y15.1 (-1) y15.2 with
  | none => none
  | some y16 => some (1, ((upd y16.2.1 34 y16.1), y16.2.2)))))) else (if y1.1 = 40 then (match sp_Md_readInner f  ((upd (upd y1.2.1 27 ((y1.2.1 27) + 1)) 27 (y1.2.1 27)), y1.2.2) with
  | none => none
  | some y18 => some (y18.1, y18.2)) else (if y1.1 = 42 then (match sp_Md_readLoop f (y1.2.1 27) ((upd y1.2.1 27 ((y1.2.1 27) + 1)), y1.2.2) with
  | none => none
  | some y20 => some (y20.1, y20.2)) else (if y1.1 = 46 then (match sp_Md_readExit   ((upd y1.2.1 27 ((y1.2.1 27) + 1)), y1.2.2) with
  | none => none
  | some y22 => some (y22.1, y22.2)) else (if y1.1 = 48 then (match sp_Md_makePart  0 (-1) 0 ((upd y1.2.1 27 ((y1.2.1 27) + 1)), y1.2.2) with
  | none => none
  | some y24 => some (1, ((upd y24.2.1 34 y24.1), y24.2.2))) else (if y1.1 = 49 then (match sp_Md_pause  (y1.2.1 27) ((upd y1.2.1 27 ((y1.2.1 27) + 1)), y1.2.2) with
  | none => none
  | some y26 => some (1, ((upd y26.2.1 34 y26.1), y26.2.2))) else (if y1.1 = 63 then (match sp_Md_readIf f  ((upd y1.2.1 27 ((y1.2.1 27) + 1)), y1.2.2) with
  | none => none
  | some y28 => some (y28.1, y28.2)) else (if y1.1 = 64 then (match sp_Md_readLocal f (y1.2.1 27) ((upd y1.2.1 27 ((y1.2.1 27) + 1)), y1.2.2) with
  | none => none
  | some y30 => some (y30.1, y30.2)) else (if y1.1 = 94 then (match sp_Md_isNamed  1 ((upd y1.2.1 27 ((y1.2.1 27) + 1)), y1.2.2) with
  | none => none
  | some y32 => (if y32.1 = 0 then some (0, y32.2) else (match sp_Md_makePart  2 (y32.2.1 35) 0 y32.2 with
  | none => none
  | some y34 => (match sp_Md_pause  (y1.2.1 27) y34.2 with
  | none => none
  | some y35 => (match sp_Md_with  9 (-1) y34.1 y35.1 y35.2 with
  | none => none
  | some y36 => (match sp_Md_with  4 (-1) y36.1 (-1) y36.2 with
  | none => none
  | some y37 => some (1, ((upd y37.2.1 34 y37.1), y37.2.2)))))))) else (if y1.1 = 126 then (match sp_Md_readAbort f (y1.2.1 27) 0 ((upd y1.2.1 27 ((y1.2.1 27) + 1)), y1.2.2) with
  | none => none
  | some y39 => some (y39.1, y39.2)) else some (0, ((upd (upd y1.2.1 27 ((y1.2.1 27) + 1)) 27 (y1.2.1 27)), y1.2.2)))))))))))))))))
theorem c_sp_Md_readU (hf : mr_IH l F a A D f) (hD : D ≤ d)  {σ : gm_S} {r : Int32 × gm_S} (hp : sp_Md_readU f  σ = some r) : gm_Has l F (d + 5) m_Md_readU a A [] σ (fun w σ' => w = some (.int r.1) ∧ σ' = r.2) := by
  refine gm_meth (k := 3) (L := [some (.ref a), none, none, none]) pn_Md rfl (Nat.le_of_ble_eq_true rfl) ?_
  unfold sp_Md_readU at hp
  refine gm_p k_Md_readU rfl rfl ?_
  cases hy1 : sp_Md_see   σ with
  | none =>
    rw [hy1] at hp
    cases hp
  | some y1 =>
    rw [hy1] at hp
    dsimp only at hp
    refine gm_ivB (M' := m_Md_see) (As := []) k_Md_readU rfl rfl rfl rfl rfl rfl (Nat.le_of_ble_eq_true rfl) (c_sp_Md_see  hy1) (fun hby1 => ?_)
    refine gm_p (L' := [some (.ref a), some (.int y1.1), none, none]) (st' := []) k_Md_readU rfl rfl ?_
    refine gm_p k_Md_readU rfl rfl ?_
    refine gm_g k_Md_readU rfl rfl rfl rfl ?_
    refine gm_p (L' := [some (.ref a), some (.int y1.1), some (.int (y1.2.1 27)), none]) (st' := []) k_Md_readU rfl rfl ?_
    refine gm_p k_Md_readU rfl rfl ?_
    refine gm_p k_Md_readU rfl rfl ?_
    refine gm_g k_Md_readU rfl rfl rfl rfl ?_
    refine gm_p k_Md_readU rfl rfl ?_
    refine gm_p k_Md_readU rfl rfl ?_
    refine gm_pt k_Md_readU rfl rfl rfl trivial (by decide) rfl ?_
    refine gm_p k_Md_readU rfl rfl ?_
    by_cases h2 : y1.1 = 33
    · rw [if_pos h2] at hp
      refine gm_lJ (tgt := 168) k_Md_readU rfl rfl (by decide) h2 rfl rfl ?_
      refine gm_p k_Md_readU rfl rfl ?_
      refine gm_p k_Md_readU rfl rfl ?_
      cases hy3 : sp_Md_isNamed  1 ((upd y1.2.1 27 ((y1.2.1 27) + 1)), y1.2.2) with
      | none =>
        rw [hy3] at hp
        cases hp
      | some y3 =>
        rw [hy3] at hp
        dsimp only at hp
        refine gm_ivB (M' := m_Md_isNamed) (As := [.int 1]) k_Md_readU rfl rfl rfl rfl rfl rfl (Nat.le_of_ble_eq_true rfl) (c_sp_Md_isNamed  hy3) (fun hby3 => ?_)
        refine gm_if k_Md_readU rfl rfl rfl (fun h4 => ?_) (fun h4 => ?_)
        · skip
          rw [if_neg (show ¬ (y3.1 = 0) from h4)] at hp
          refine gm_p k_Md_readU rfl rfl ?_
          refine gm_p k_Md_readU rfl rfl ?_
          refine gm_p k_Md_readU rfl rfl ?_
          refine gm_p k_Md_readU rfl rfl ?_
          refine gm_g k_Md_readU rfl rfl rfl rfl ?_
          refine gm_p k_Md_readU rfl rfl ?_
          cases hy5 : sp_Md_makePart  2 (y3.2.1 35) 0 y3.2 with
          | none =>
            rw [hy5] at hp
            cases hp
          | some y5 =>
            rw [hy5] at hp
            dsimp only at hp
            refine gm_ivB (M' := m_Md_makePart) (As := [.int 2, .int (y3.2.1 35), .int 0]) k_Md_readU rfl rfl rfl rfl rfl rfl (Nat.le_of_ble_eq_true rfl) (c_sp_Md_makePart  hy5) (fun hby5 => ?_)
            refine gm_pt k_Md_readU rfl rfl rfl trivial (by decide) rfl ?_
            refine gm_p k_Md_readU rfl rfl ?_
            cases hp
            exact gm_ret (v := some (.int _)) k_Md_readU rfl rfl (Or.inr rfl) rfl ⟨rfl, rfl⟩
        · skip
          rw [if_pos (show y3.1 = 0 from h4)] at hp
          refine gm_p k_Md_readU rfl rfl ?_
          cases hp
          exact gm_ret (v := some (.int _)) k_Md_readU rfl rfl (Or.inl rfl) rfl ⟨rfl, rfl⟩
    · rw [if_neg h2] at hp
      by_cases h6 : y1.1 = 35
      · rw [if_pos h6] at hp
        refine gm_lJ (tgt := 205) k_Md_readU rfl rfl (by decide) h6 rfl rfl ?_
        refine gm_p k_Md_readU rfl rfl ?_
        cases hy7 : sp_Md_readSuspend f  ((upd y1.2.1 27 ((y1.2.1 27) + 1)), y1.2.2) with
        | none =>
          rw [hy7] at hp
          cases hp
        | some y7 =>
          rw [hy7] at hp
          dsimp only at hp
          refine gm_ivB (M' := m_Md_readSuspend) (As := []) k_Md_readU rfl rfl rfl rfl rfl rfl (Nat.le_of_ble_eq_true rfl) (c_sp_Md_readSuspend hf (by omega) hy7) (fun hby7 => ?_)
          cases hp
          exact gm_ret (v := some (.int _)) k_Md_readU rfl rfl hby7 rfl ⟨rfl, rfl⟩
      · rw [if_neg h6] at hp
        by_cases h8 : y1.1 = 36
        · rw [if_pos h8] at hp
          refine gm_lJ (tgt := 210) k_Md_readU rfl rfl (by decide) h8 rfl rfl ?_
          refine gm_p k_Md_readU rfl rfl ?_
          cases hy9 : sp_Md_readTrap f  ((upd y1.2.1 27 ((y1.2.1 27) + 1)), y1.2.2) with
          | none =>
            rw [hy9] at hp
            cases hp
          | some y9 =>
            rw [hy9] at hp
            dsimp only at hp
            refine gm_ivB (M' := m_Md_readTrap) (As := []) k_Md_readU rfl rfl rfl rfl rfl rfl (Nat.le_of_ble_eq_true rfl) (c_sp_Md_readTrap hf (by omega) hy9) (fun hby9 => ?_)
            cases hp
            exact gm_ret (v := some (.int _)) k_Md_readU rfl rfl hby9 rfl ⟨rfl, rfl⟩
        · rw [if_neg h8] at hp
          by_cases h10 : y1.1 = 37
          · rw [if_pos h10] at hp
            refine gm_lJ (tgt := 306) k_Md_readU rfl rfl (by decide) h10 rfl rfl ?_
            refine gm_p k_Md_readU rfl rfl ?_
            refine gm_p k_Md_readU rfl rfl ?_
            refine gm_p k_Md_readU rfl rfl ?_
            cases hy11 : sp_Md_readAbort f (y1.2.1 27) 1 ((upd y1.2.1 27 ((y1.2.1 27) + 1)), y1.2.2) with
            | none =>
              rw [hy11] at hp
              cases hp
            | some y11 =>
              rw [hy11] at hp
              dsimp only at hp
              refine gm_ivB (M' := m_Md_readAbort) (As := [.int (y1.2.1 27), .int 1]) k_Md_readU rfl rfl rfl rfl rfl rfl (Nat.le_of_ble_eq_true rfl) (c_sp_Md_readAbort hf (by omega) hy11) (fun hby11 => ?_)
              cases hp
              exact gm_ret (v := some (.int _)) k_Md_readU rfl rfl hby11 rfl ⟨rfl, rfl⟩
          · rw [if_neg h10] at hp
            by_cases h12 : y1.1 = 38
            · rw [if_pos h12] at hp
              refine gm_lJ (tgt := 226) k_Md_readU rfl rfl (by decide) h12 rfl rfl ?_
              refine gm_p k_Md_readU rfl rfl ?_
              refine gm_p k_Md_readU rfl rfl ?_
              cases hy13 : sp_Md_isNamed  0 ((upd y1.2.1 27 ((y1.2.1 27) + 1)), y1.2.2) with
              | none =>
                rw [hy13] at hp
                cases hp
              | some y13 =>
                rw [hy13] at hp
                dsimp only at hp
                refine gm_ivB (M' := m_Md_isNamed) (As := [.int 0]) k_Md_readU rfl rfl rfl rfl rfl rfl (Nat.le_of_ble_eq_true rfl) (c_sp_Md_isNamed  hy13) (fun hby13 => ?_)
                refine gm_if k_Md_readU rfl rfl rfl (fun h14 => ?_) (fun h14 => ?_)
                · skip
                  rw [if_neg (show ¬ (y13.1 = 0) from h14)] at hp
                  refine gm_p k_Md_readU rfl rfl ?_
                  refine gm_p k_Md_readU rfl rfl ?_
                  refine gm_p k_Md_readU rfl rfl ?_
                  refine gm_p k_Md_readU rfl rfl ?_
                  refine gm_p k_Md_readU rfl rfl ?_
                  refine gm_p k_Md_readU rfl rfl ?_
                  refine gm_g k_Md_readU rfl rfl rfl rfl ?_
                  refine gm_p k_Md_readU rfl rfl ?_
                  cases hy15 : sp_Md_waiting  (y13.2.1 35) (y1.2.1 27) y13.2 with
                  | none =>
                    rw [hy15] at hp
                    cases hp
                  | some y15 =>
                    rw [hy15] at hp
                    dsimp only at hp
                    refine gm_ivB (M' := m_Md_waiting) (As := [.int (y13.2.1 35), .int (y1.2.1 27)]) k_Md_readU rfl rfl rfl rfl rfl rfl (Nat.le_of_ble_eq_true rfl) (c_sp_Md_waiting  hy15) (fun hby15 => ?_)
                    refine gm_p k_Md_readU rfl rfl ?_
                    cases hy16 : sp_Md_with  6 (-1) y15.1 (-1) y15.2 with
                    | none =>
                      rw [hy16] at hp
                      cases hp
                    | some y16 =>
                      rw [hy16] at hp
                      dsimp only at hp
                      refine gm_ivB (M' := m_Md_with) (As := [.int 6, .int (-1), .int y15.1, .int (-1)]) k_Md_readU rfl rfl rfl rfl rfl rfl (Nat.le_of_ble_eq_true rfl) (c_sp_Md_with  hy16) (fun hby16 => ?_)
                      refine gm_pt k_Md_readU rfl rfl rfl trivial (by decide) rfl ?_
                      refine gm_p k_Md_readU rfl rfl ?_
                      cases hp
                      exact gm_ret (v := some (.int _)) k_Md_readU rfl rfl (Or.inr rfl) rfl ⟨rfl, rfl⟩
                · skip
                  rw [if_pos (show y13.1 = 0 from h14)] at hp
                  refine gm_p k_Md_readU rfl rfl ?_
                  cases hp
                  exact gm_ret (v := some (.int _)) k_Md_readU rfl rfl (Or.inl rfl) rfl ⟨rfl, rfl⟩
            · rw [if_neg h12] at hp
              by_cases h17 : y1.1 = 40
              · rw [if_pos h17] at hp
                refine gm_lJ (tgt := 320) k_Md_readU rfl rfl (by decide) h17 rfl rfl ?_
                refine gm_p k_Md_readU rfl rfl ?_
                refine gm_p k_Md_readU rfl rfl ?_
                refine gm_pt k_Md_readU rfl rfl rfl trivial (by decide) rfl ?_
                refine gm_p k_Md_readU rfl rfl ?_
                cases hy18 : sp_Md_readInner f  ((upd (upd y1.2.1 27 ((y1.2.1 27) + 1)) 27 (y1.2.1 27)), y1.2.2) with
                | none =>
                  rw [hy18] at hp
                  cases hp
                | some y18 =>
                  rw [hy18] at hp
                  dsimp only at hp
                  refine gm_ivB (M' := m_Md_readInner) (As := []) k_Md_readU rfl rfl rfl rfl rfl rfl (Nat.le_of_ble_eq_true rfl) (c_sp_Md_readInner hf (by omega) hy18) (fun hby18 => ?_)
                  cases hp
                  exact gm_ret (v := some (.int _)) k_Md_readU rfl rfl hby18 rfl ⟨rfl, rfl⟩
              · rw [if_neg h17] at hp
                by_cases h19 : y1.1 = 42
                · rw [if_pos h19] at hp
                  refine gm_lJ (tgt := 199) k_Md_readU rfl rfl (by decide) h19 rfl rfl ?_
                  refine gm_p k_Md_readU rfl rfl ?_
                  refine gm_p k_Md_readU rfl rfl ?_
                  cases hy20 : sp_Md_readLoop f (y1.2.1 27) ((upd y1.2.1 27 ((y1.2.1 27) + 1)), y1.2.2) with
                  | none =>
                    rw [hy20] at hp
                    cases hp
                  | some y20 =>
                    rw [hy20] at hp
                    dsimp only at hp
                    refine gm_ivB (M' := m_Md_readLoop) (As := [.int (y1.2.1 27)]) k_Md_readU rfl rfl rfl rfl rfl rfl (Nat.le_of_ble_eq_true rfl) (c_sp_Md_readLoop hf (by omega) hy20) (fun hby20 => ?_)
                    cases hp
                    exact gm_ret (v := some (.int _)) k_Md_readU rfl rfl hby20 rfl ⟨rfl, rfl⟩
                · rw [if_neg h19] at hp
                  by_cases h21 : y1.1 = 46
                  · rw [if_pos h21] at hp
                    refine gm_lJ (tgt := 215) k_Md_readU rfl rfl (by decide) h21 rfl rfl ?_
                    refine gm_p k_Md_readU rfl rfl ?_
                    cases hy22 : sp_Md_readExit   ((upd y1.2.1 27 ((y1.2.1 27) + 1)), y1.2.2) with
                    | none =>
                      rw [hy22] at hp
                      cases hp
                    | some y22 =>
                      rw [hy22] at hp
                      dsimp only at hp
                      refine gm_ivB (M' := m_Md_readExit) (As := []) k_Md_readU rfl rfl rfl rfl rfl rfl (Nat.le_of_ble_eq_true rfl) (c_sp_Md_readExit  hy22) (fun hby22 => ?_)
                      cases hp
                      exact gm_ret (v := some (.int _)) k_Md_readU rfl rfl hby22 rfl ⟨rfl, rfl⟩
                  · rw [if_neg h21] at hp
                    by_cases h23 : y1.1 = 48
                    · rw [if_pos h23] at hp
                      refine gm_lJ (tgt := 144) k_Md_readU rfl rfl (by decide) h23 rfl rfl ?_
                      refine gm_p k_Md_readU rfl rfl ?_
                      refine gm_p k_Md_readU rfl rfl ?_
                      refine gm_p k_Md_readU rfl rfl ?_
                      refine gm_p k_Md_readU rfl rfl ?_
                      refine gm_p k_Md_readU rfl rfl ?_
                      cases hy24 : sp_Md_makePart  0 (-1) 0 ((upd y1.2.1 27 ((y1.2.1 27) + 1)), y1.2.2) with
                      | none =>
                        rw [hy24] at hp
                        cases hp
                      | some y24 =>
                        rw [hy24] at hp
                        dsimp only at hp
                        refine gm_ivB (M' := m_Md_makePart) (As := [.int 0, .int (-1), .int 0]) k_Md_readU rfl rfl rfl rfl rfl rfl (Nat.le_of_ble_eq_true rfl) (c_sp_Md_makePart  hy24) (fun hby24 => ?_)
                        refine gm_pt k_Md_readU rfl rfl rfl trivial (by decide) rfl ?_
                        refine gm_p k_Md_readU rfl rfl ?_
                        cases hp
                        exact gm_ret (v := some (.int _)) k_Md_readU rfl rfl (Or.inr rfl) rfl ⟨rfl, rfl⟩
                    · rw [if_neg h23] at hp
                      by_cases h25 : y1.1 = 49
                      · rw [if_pos h25] at hp
                        refine gm_lJ (tgt := 157) k_Md_readU rfl rfl (by decide) h25 rfl rfl ?_
                        refine gm_p k_Md_readU rfl rfl ?_
                        refine gm_p k_Md_readU rfl rfl ?_
                        refine gm_p k_Md_readU rfl rfl ?_
                        cases hy26 : sp_Md_pause  (y1.2.1 27) ((upd y1.2.1 27 ((y1.2.1 27) + 1)), y1.2.2) with
                        | none =>
                          rw [hy26] at hp
                          cases hp
                        | some y26 =>
                          rw [hy26] at hp
                          dsimp only at hp
                          refine gm_ivB (M' := m_Md_pause) (As := [.int (y1.2.1 27)]) k_Md_readU rfl rfl rfl rfl rfl rfl (Nat.le_of_ble_eq_true rfl) (c_sp_Md_pause  hy26) (fun hby26 => ?_)
                          refine gm_pt k_Md_readU rfl rfl rfl trivial (by decide) rfl ?_
                          refine gm_p k_Md_readU rfl rfl ?_
                          cases hp
                          exact gm_ret (v := some (.int _)) k_Md_readU rfl rfl (Or.inr rfl) rfl ⟨rfl, rfl⟩
                      · rw [if_neg h25] at hp
                        by_cases h27 : y1.1 = 63
                        · rw [if_pos h27] at hp
                          refine gm_lJ (tgt := 194) k_Md_readU rfl rfl (by decide) h27 rfl rfl ?_
                          refine gm_p k_Md_readU rfl rfl ?_
                          cases hy28 : sp_Md_readIf f  ((upd y1.2.1 27 ((y1.2.1 27) + 1)), y1.2.2) with
                          | none =>
                            rw [hy28] at hp
                            cases hp
                          | some y28 =>
                            rw [hy28] at hp
                            dsimp only at hp
                            refine gm_ivB (M' := m_Md_readIf) (As := []) k_Md_readU rfl rfl rfl rfl rfl rfl (Nat.le_of_ble_eq_true rfl) (c_sp_Md_readIf hf (by omega) hy28) (fun hby28 => ?_)
                            cases hp
                            exact gm_ret (v := some (.int _)) k_Md_readU rfl rfl hby28 rfl ⟨rfl, rfl⟩
                        · rw [if_neg h27] at hp
                          by_cases h29 : y1.1 = 64
                          · rw [if_pos h29] at hp
                            refine gm_lJ (tgt := 220) k_Md_readU rfl rfl (by decide) h29 rfl rfl ?_
                            refine gm_p k_Md_readU rfl rfl ?_
                            refine gm_p k_Md_readU rfl rfl ?_
                            cases hy30 : sp_Md_readLocal f (y1.2.1 27) ((upd y1.2.1 27 ((y1.2.1 27) + 1)), y1.2.2) with
                            | none =>
                              rw [hy30] at hp
                              cases hp
                            | some y30 =>
                              rw [hy30] at hp
                              dsimp only at hp
                              refine gm_ivB (M' := m_Md_readLocal) (As := [.int (y1.2.1 27)]) k_Md_readU rfl rfl rfl rfl rfl rfl (Nat.le_of_ble_eq_true rfl) (c_sp_Md_readLocal hf (by omega) hy30) (fun hby30 => ?_)
                              cases hp
                              exact gm_ret (v := some (.int _)) k_Md_readU rfl rfl hby30 rfl ⟨rfl, rfl⟩
                          · rw [if_neg h29] at hp
                            by_cases h31 : y1.1 = 94
                            · rw [if_pos h31] at hp
                              refine gm_lJ (tgt := 259) k_Md_readU rfl rfl (by decide) h31 rfl rfl ?_
                              refine gm_p k_Md_readU rfl rfl ?_
                              refine gm_p k_Md_readU rfl rfl ?_
                              cases hy32 : sp_Md_isNamed  1 ((upd y1.2.1 27 ((y1.2.1 27) + 1)), y1.2.2) with
                              | none =>
                                rw [hy32] at hp
                                cases hp
                              | some y32 =>
                                rw [hy32] at hp
                                dsimp only at hp
                                refine gm_ivB (M' := m_Md_isNamed) (As := [.int 1]) k_Md_readU rfl rfl rfl rfl rfl rfl (Nat.le_of_ble_eq_true rfl) (c_sp_Md_isNamed  hy32) (fun hby32 => ?_)
                                refine gm_if k_Md_readU rfl rfl rfl (fun h33 => ?_) (fun h33 => ?_)
                                · skip
                                  rw [if_neg (show ¬ (y32.1 = 0) from h33)] at hp
                                  refine gm_p k_Md_readU rfl rfl ?_
                                  refine gm_p k_Md_readU rfl rfl ?_
                                  refine gm_p k_Md_readU rfl rfl ?_
                                  refine gm_g k_Md_readU rfl rfl rfl rfl ?_
                                  refine gm_p k_Md_readU rfl rfl ?_
                                  cases hy34 : sp_Md_makePart  2 (y32.2.1 35) 0 y32.2 with
                                  | none =>
                                    rw [hy34] at hp
                                    cases hp
                                  | some y34 =>
                                    rw [hy34] at hp
                                    dsimp only at hp
                                    refine gm_ivB (M' := m_Md_makePart) (As := [.int 2, .int (y32.2.1 35), .int 0]) k_Md_readU rfl rfl rfl rfl rfl rfl (Nat.le_of_ble_eq_true rfl) (c_sp_Md_makePart  hy34) (fun hby34 => ?_)
                                    refine gm_p (L' := [some (.ref a), some (.int y1.1), some (.int (y1.2.1 27)), some (.int y34.1)]) (st' := []) k_Md_readU rfl rfl ?_
                                    refine gm_p k_Md_readU rfl rfl ?_
                                    refine gm_p k_Md_readU rfl rfl ?_
                                    refine gm_p k_Md_readU rfl rfl ?_
                                    refine gm_p k_Md_readU rfl rfl ?_
                                    refine gm_p k_Md_readU rfl rfl ?_
                                    refine gm_p k_Md_readU rfl rfl ?_
                                    refine gm_p k_Md_readU rfl rfl ?_
                                    refine gm_p k_Md_readU rfl rfl ?_
                                    refine gm_p k_Md_readU rfl rfl ?_
                                    refine gm_p k_Md_readU rfl rfl ?_
                                    cases hy35 : sp_Md_pause  (y1.2.1 27) y34.2 with
                                    | none =>
                                      rw [hy35] at hp
                                      cases hp
                                    | some y35 =>
                                      rw [hy35] at hp
                                      dsimp only at hp
                                      refine gm_ivB (M' := m_Md_pause) (As := [.int (y1.2.1 27)]) k_Md_readU rfl rfl rfl rfl rfl rfl (Nat.le_of_ble_eq_true rfl) (c_sp_Md_pause  hy35) (fun hby35 => ?_)
                                      cases hy36 : sp_Md_with  9 (-1) y34.1 y35.1 y35.2 with
                                      | none =>
                                        rw [hy36] at hp
                                        cases hp
                                      | some y36 =>
                                        rw [hy36] at hp
                                        dsimp only at hp
                                        refine gm_ivB (M' := m_Md_with) (As := [.int 9, .int (-1), .int y34.1, .int y35.1]) k_Md_readU rfl rfl rfl rfl rfl rfl (Nat.le_of_ble_eq_true rfl) (c_sp_Md_with  hy36) (fun hby36 => ?_)
                                        refine gm_p k_Md_readU rfl rfl ?_
                                        cases hy37 : sp_Md_with  4 (-1) y36.1 (-1) y36.2 with
                                        | none =>
                                          rw [hy37] at hp
                                          cases hp
                                        | some y37 =>
                                          rw [hy37] at hp
                                          dsimp only at hp
                                          refine gm_ivB (M' := m_Md_with) (As := [.int 4, .int (-1), .int y36.1, .int (-1)]) k_Md_readU rfl rfl rfl rfl rfl rfl (Nat.le_of_ble_eq_true rfl) (c_sp_Md_with  hy37) (fun hby37 => ?_)
                                          refine gm_pt k_Md_readU rfl rfl rfl trivial (by decide) rfl ?_
                                          refine gm_p k_Md_readU rfl rfl ?_
                                          cases hp
                                          exact gm_ret (v := some (.int _)) k_Md_readU rfl rfl (Or.inr rfl) rfl ⟨rfl, rfl⟩
                                · skip
                                  rw [if_pos (show y32.1 = 0 from h33)] at hp
                                  refine gm_p k_Md_readU rfl rfl ?_
                                  cases hp
                                  exact gm_ret (v := some (.int _)) k_Md_readU rfl rfl (Or.inl rfl) rfl ⟨rfl, rfl⟩
                            · rw [if_neg h31] at hp
                              by_cases h38 : y1.1 = 126
                              · rw [if_pos h38] at hp
                                refine gm_lJ (tgt := 313) k_Md_readU rfl rfl (by decide) h38 rfl rfl ?_
                                refine gm_p k_Md_readU rfl rfl ?_
                                refine gm_p k_Md_readU rfl rfl ?_
                                refine gm_p k_Md_readU rfl rfl ?_
                                cases hy39 : sp_Md_readAbort f (y1.2.1 27) 0 ((upd y1.2.1 27 ((y1.2.1 27) + 1)), y1.2.2) with
                                | none =>
                                  rw [hy39] at hp
                                  cases hp
                                | some y39 =>
                                  rw [hy39] at hp
                                  dsimp only at hp
                                  refine gm_ivB (M' := m_Md_readAbort) (As := [.int (y1.2.1 27), .int 0]) k_Md_readU rfl rfl rfl rfl rfl rfl (Nat.le_of_ble_eq_true rfl) (c_sp_Md_readAbort hf (by omega) hy39) (fun hby39 => ?_)
                                  cases hp
                                  exact gm_ret (v := some (.int _)) k_Md_readU rfl rfl hby39 rfl ⟨rfl, rfl⟩
                              · rw [if_neg h38] at hp
                                refine gm_lO (tgt := 330) k_Md_readU rfl rfl (by decide) (sw_Md_readU h2 h6 h8 h10 h12 h17 h19 h21 h23 h25 h27 h29 h31 h38) rfl ?_
                                refine gm_p k_Md_readU rfl rfl ?_
                                refine gm_p k_Md_readU rfl rfl ?_
                                refine gm_pt k_Md_readU rfl rfl rfl trivial (by decide) rfl ?_
                                refine gm_p k_Md_readU rfl rfl ?_
                                cases hp
                                exact gm_ret (v := some (.int _)) k_Md_readU rfl rfl (Or.inl rfl) rfl ⟨rfl, rfl⟩
def sp_Md_readQ_44 (f : gm_S → Option (Int32 × gm_S))  : Nat → Int32 → Int32 → gm_S → Option (Int32 × gm_S)
  | 0, _, _, _ => none
  | m + 1, v1, v2, σ => (match sp_Md_see   σ with
  | none => none
  | some y7 => (if y7.1 = 59 then (match sp_Md_readU f  ((upd y7.2.1 27 ((y7.2.1 27) + 1)), y7.2.2) with
  | none => none
  | some y10 => (if y10.1 = 0 then some (0, y10.2) else (if gi v2 2600 = true then sp_Md_readQ_44 f  m v1 (y10.2.1 34) (y10.2.1, (gm_up y10.2.2 24 (upd (y10.2.2 24) v2.toNatClampNeg (y10.2.1 34)))) else none))) else (match sp_Md_settle  v1 y7.2 with
  | none => none
  | some y9 => some (1, ((upd y9.1 34 v1), y9.2)))))
theorem c_sp_Md_readQ_44 (hf : mr_IH l F a A D f) (hD : D ≤ d) {r : Int32 × gm_S} : ∀ (m : Nat) (v1 : Int32) (v2 : Int32) (σ : gm_S), sp_Md_readQ_44 f  m v1 v2 σ = some r → gm_Go l F (d + 6) m_Md_readQ a A 44 ([some (.ref a), some (.int v1), some (.int v2)]) [] σ (fun w σ' => w = some (.int r.1) ∧ σ' = r.2) := by
  intro m
  induction m with
  | zero => intro v1 v2 σ hp; cases hp
  | succ m ihm =>
    intro v1 v2 σ hp
    unfold sp_Md_readQ_44 at hp
    refine gm_p k_Md_readQ rfl rfl ?_
    cases hy7 : sp_Md_see   σ with
    | none =>
      rw [hy7] at hp
      cases hp
    | some y7 =>
      rw [hy7] at hp
      dsimp only at hp
      refine gm_ivB (M' := m_Md_see) (As := []) k_Md_readQ rfl rfl rfl rfl rfl rfl (Nat.le_of_ble_eq_true rfl) (c_sp_Md_see  hy7) (fun hby7 => ?_)
      refine gm_p k_Md_readQ rfl rfl ?_
      refine gm_ic k_Md_readQ rfl rfl rfl (fun h8 => ?_) (fun h8 => ?_)
      · skip
        rw [if_neg (show ¬ (y7.1 = 59) from h8)] at hp
        refine gm_p k_Md_readQ rfl rfl ?_
        refine gm_p k_Md_readQ rfl rfl ?_
        cases hy9 : sp_Md_settle  v1 y7.2 with
        | none =>
          rw [hy9] at hp
          cases hp
        | some y9 =>
          rw [hy9] at hp
          dsimp only at hp
          refine gm_ivV (M' := m_Md_settle) (As := [.int v1]) k_Md_readQ rfl rfl rfl rfl rfl rfl (Nat.le_of_ble_eq_true rfl) (c_sp_Md_settle  hy9) ?_
          refine gm_p k_Md_readQ rfl rfl ?_
          refine gm_p k_Md_readQ rfl rfl ?_
          refine gm_pt k_Md_readQ rfl rfl rfl trivial (by decide) rfl ?_
          refine gm_p k_Md_readQ rfl rfl ?_
          cases hp
          exact gm_ret (v := some (.int _)) k_Md_readQ rfl rfl (Or.inr rfl) rfl ⟨rfl, rfl⟩
      · skip
        rw [if_pos (show y7.1 = 59 from h8)] at hp
        refine gm_p k_Md_readQ rfl rfl ?_
        refine gm_p k_Md_readQ rfl rfl ?_
        refine gm_g k_Md_readQ rfl rfl rfl rfl ?_
        refine gm_p k_Md_readQ rfl rfl ?_
        refine gm_p k_Md_readQ rfl rfl ?_
        refine gm_pt k_Md_readQ rfl rfl rfl trivial (by decide) rfl ?_
        refine gm_p k_Md_readQ rfl rfl ?_
        cases hy10 : sp_Md_readU f  ((upd y7.2.1 27 ((y7.2.1 27) + 1)), y7.2.2) with
        | none =>
          rw [hy10] at hp
          cases hp
        | some y10 =>
          rw [hy10] at hp
          dsimp only at hp
          refine gm_ivB (M' := m_Md_readU) (As := []) k_Md_readQ rfl rfl rfl rfl rfl rfl (Nat.le_of_ble_eq_true rfl) (c_sp_Md_readU hf (by omega) hy10) (fun hby10 => ?_)
          refine gm_if k_Md_readQ rfl rfl rfl (fun h11 => ?_) (fun h11 => ?_)
          · skip
            rw [if_neg (show ¬ (y10.1 = 0) from h11)] at hp
            refine gm_p k_Md_readQ rfl rfl ?_
            refine gm_g k_Md_readQ rfl rfl rfl rfl ?_
            refine gm_p k_Md_readQ rfl rfl ?_
            refine gm_p k_Md_readQ rfl rfl ?_
            refine gm_g k_Md_readQ rfl rfl rfl rfl ?_
            by_cases g12 : gi v2 2600 = true
            · rw [if_pos g12] at hp
              refine gm_sto k_Md_readQ rfl rfl (gi_in g12) (by decide) ?_
              refine gm_p k_Md_readQ rfl rfl ?_
              refine gm_g k_Md_readQ rfl rfl rfl rfl ?_
              refine gm_p (L' := [some (.ref a), some (.int v1), some (.int (y10.2.1 34))]) (st' := []) k_Md_readQ rfl rfl ?_
              refine gm_j k_Md_readQ rfl rfl ?_
              exact ihm _ _ _ hp
            · rw [if_neg g12] at hp
              cases hp
          · skip
            rw [if_pos (show y10.1 = 0 from h11)] at hp
            refine gm_p k_Md_readQ rfl rfl ?_
            cases hp
            exact gm_ret (v := some (.int _)) k_Md_readQ rfl rfl (Or.inl rfl) rfl ⟨rfl, rfl⟩
def sp_Md_readQ (f : gm_S → Option (Int32 × gm_S))  (σ : gm_S) : Option (Int32 × gm_S) := (match sp_Md_readU f  σ with
  | none => none
  | some y1 => (if y1.1 = 0 then some (0, y1.2) else (match sp_Md_see   y1.2 with
  | none => none
  | some y3 => (if y3.1 = 59 then (match sp_Md_makePart  9 (-1) 0 y3.2 with
  | none => none
  | some y5 => (if gi y5.1 2600 = true then sp_Md_readQ_44 f  2601 y5.1 (y5.2.1 34) (y5.2.1, (gm_up y5.2.2 23 (upd (y5.2.2 23) y5.1.toNatClampNeg (y5.2.1 34)))) else none)) else some (1, y3.2)))))
theorem c_sp_Md_readQ (hf : mr_IH l F a A D f) (hD : D ≤ d)  {σ : gm_S} {r : Int32 × gm_S} (hp : sp_Md_readQ f  σ = some r) : gm_Has l F (d + 6) m_Md_readQ a A [] σ (fun w σ' => w = some (.int r.1) ∧ σ' = r.2) := by
  refine gm_meth (k := 2) (L := [some (.ref a), none, none]) pn_Md rfl (Nat.le_of_ble_eq_true rfl) ?_
  unfold sp_Md_readQ at hp
  refine gm_p k_Md_readQ rfl rfl ?_
  cases hy1 : sp_Md_readU f  σ with
  | none =>
    rw [hy1] at hp
    cases hp
  | some y1 =>
    rw [hy1] at hp
    dsimp only at hp
    refine gm_ivB (M' := m_Md_readU) (As := []) k_Md_readQ rfl rfl rfl rfl rfl rfl (Nat.le_of_ble_eq_true rfl) (c_sp_Md_readU hf (by omega) hy1) (fun hby1 => ?_)
    refine gm_if k_Md_readQ rfl rfl rfl (fun h2 => ?_) (fun h2 => ?_)
    · skip
      rw [if_neg (show ¬ (y1.1 = 0) from h2)] at hp
      refine gm_p k_Md_readQ rfl rfl ?_
      cases hy3 : sp_Md_see   y1.2 with
      | none =>
        rw [hy3] at hp
        cases hp
      | some y3 =>
        rw [hy3] at hp
        dsimp only at hp
        refine gm_ivB (M' := m_Md_see) (As := []) k_Md_readQ rfl rfl rfl rfl rfl rfl (Nat.le_of_ble_eq_true rfl) (c_sp_Md_see  hy3) (fun hby3 => ?_)
        refine gm_p k_Md_readQ rfl rfl ?_
        refine gm_ic k_Md_readQ rfl rfl rfl (fun h4 => ?_) (fun h4 => ?_)
        · skip
          rw [if_pos (show y3.1 = 59 from h4)] at hp
          refine gm_p k_Md_readQ rfl rfl ?_
          refine gm_p k_Md_readQ rfl rfl ?_
          refine gm_p k_Md_readQ rfl rfl ?_
          refine gm_p k_Md_readQ rfl rfl ?_
          cases hy5 : sp_Md_makePart  9 (-1) 0 y3.2 with
          | none =>
            rw [hy5] at hp
            cases hp
          | some y5 =>
            rw [hy5] at hp
            dsimp only at hp
            refine gm_ivB (M' := m_Md_makePart) (As := [.int 9, .int (-1), .int 0]) k_Md_readQ rfl rfl rfl rfl rfl rfl (Nat.le_of_ble_eq_true rfl) (c_sp_Md_makePart  hy5) (fun hby5 => ?_)
            refine gm_p (L' := [some (.ref a), some (.int y5.1), none]) (st' := []) k_Md_readQ rfl rfl ?_
            refine gm_p k_Md_readQ rfl rfl ?_
            refine gm_g k_Md_readQ rfl rfl rfl rfl ?_
            refine gm_p k_Md_readQ rfl rfl ?_
            refine gm_p k_Md_readQ rfl rfl ?_
            refine gm_g k_Md_readQ rfl rfl rfl rfl ?_
            by_cases g6 : gi y5.1 2600 = true
            · rw [if_pos g6] at hp
              refine gm_sto k_Md_readQ rfl rfl (gi_in g6) (by decide) ?_
              refine gm_p k_Md_readQ rfl rfl ?_
              refine gm_g k_Md_readQ rfl rfl rfl rfl ?_
              refine gm_p (L' := [some (.ref a), some (.int y5.1), some (.int (y5.2.1 34))]) (st' := []) k_Md_readQ rfl rfl ?_
              exact c_sp_Md_readQ_44 hf (by omega)  _ _ _ _ hp
            · rw [if_neg g6] at hp
              cases hp
        · skip
          rw [if_neg (show ¬ (y3.1 = 59) from h4)] at hp
          refine gm_p k_Md_readQ rfl rfl ?_
          cases hp
          exact gm_ret (v := some (.int _)) k_Md_readQ rfl rfl (Or.inr rfl) rfl ⟨rfl, rfl⟩
    · skip
      rw [if_pos (show y1.1 = 0 from h2)] at hp
      refine gm_p k_Md_readQ rfl rfl ?_
      cases hp
      exact gm_ret (v := some (.int _)) k_Md_readQ rfl rfl (Or.inl rfl) rfl ⟨rfl, rfl⟩
def sp_Md_readP_44 (f : gm_S → Option (Int32 × gm_S))  : Nat → Int32 → Int32 → gm_S → Option (Int32 × gm_S)
  | 0, _, _, _ => none
  | m + 1, v1, v2, σ => (match sp_Md_see   σ with
  | none => none
  | some y7 => (if y7.1 = 124 then (match sp_Md_readQ f  ((upd y7.2.1 27 ((y7.2.1 27) + 1)), y7.2.2) with
  | none => none
  | some y10 => (if y10.1 = 0 then some (0, y10.2) else (if gi v2 2600 = true then sp_Md_readP_44 f  m v1 (y10.2.1 34) (y10.2.1, (gm_up y10.2.2 24 (upd (y10.2.2 24) v2.toNatClampNeg (y10.2.1 34)))) else none))) else (match sp_Md_settle  v1 y7.2 with
  | none => none
  | some y9 => some (1, ((upd y9.1 34 v1), y9.2)))))
theorem c_sp_Md_readP_44 (hf : mr_IH l F a A D f) (hD : D ≤ d) {r : Int32 × gm_S} : ∀ (m : Nat) (v1 : Int32) (v2 : Int32) (σ : gm_S), sp_Md_readP_44 f  m v1 v2 σ = some r → gm_Go l F (d + 7) m_Md_readP a A 44 ([some (.ref a), some (.int v1), some (.int v2)]) [] σ (fun w σ' => w = some (.int r.1) ∧ σ' = r.2) := by
  intro m
  induction m with
  | zero => intro v1 v2 σ hp; cases hp
  | succ m ihm =>
    intro v1 v2 σ hp
    unfold sp_Md_readP_44 at hp
    refine gm_p k_Md_readP rfl rfl ?_
    cases hy7 : sp_Md_see   σ with
    | none =>
      rw [hy7] at hp
      cases hp
    | some y7 =>
      rw [hy7] at hp
      dsimp only at hp
      refine gm_ivB (M' := m_Md_see) (As := []) k_Md_readP rfl rfl rfl rfl rfl rfl (Nat.le_of_ble_eq_true rfl) (c_sp_Md_see  hy7) (fun hby7 => ?_)
      refine gm_p k_Md_readP rfl rfl ?_
      refine gm_ic k_Md_readP rfl rfl rfl (fun h8 => ?_) (fun h8 => ?_)
      · skip
        rw [if_neg (show ¬ (y7.1 = 124) from h8)] at hp
        refine gm_p k_Md_readP rfl rfl ?_
        refine gm_p k_Md_readP rfl rfl ?_
        cases hy9 : sp_Md_settle  v1 y7.2 with
        | none =>
          rw [hy9] at hp
          cases hp
        | some y9 =>
          rw [hy9] at hp
          dsimp only at hp
          refine gm_ivV (M' := m_Md_settle) (As := [.int v1]) k_Md_readP rfl rfl rfl rfl rfl rfl (Nat.le_of_ble_eq_true rfl) (c_sp_Md_settle  hy9) ?_
          refine gm_p k_Md_readP rfl rfl ?_
          refine gm_p k_Md_readP rfl rfl ?_
          refine gm_pt k_Md_readP rfl rfl rfl trivial (by decide) rfl ?_
          refine gm_p k_Md_readP rfl rfl ?_
          cases hp
          exact gm_ret (v := some (.int _)) k_Md_readP rfl rfl (Or.inr rfl) rfl ⟨rfl, rfl⟩
      · skip
        rw [if_pos (show y7.1 = 124 from h8)] at hp
        refine gm_p k_Md_readP rfl rfl ?_
        refine gm_p k_Md_readP rfl rfl ?_
        refine gm_g k_Md_readP rfl rfl rfl rfl ?_
        refine gm_p k_Md_readP rfl rfl ?_
        refine gm_p k_Md_readP rfl rfl ?_
        refine gm_pt k_Md_readP rfl rfl rfl trivial (by decide) rfl ?_
        refine gm_p k_Md_readP rfl rfl ?_
        cases hy10 : sp_Md_readQ f  ((upd y7.2.1 27 ((y7.2.1 27) + 1)), y7.2.2) with
        | none =>
          rw [hy10] at hp
          cases hp
        | some y10 =>
          rw [hy10] at hp
          dsimp only at hp
          refine gm_ivB (M' := m_Md_readQ) (As := []) k_Md_readP rfl rfl rfl rfl rfl rfl (Nat.le_of_ble_eq_true rfl) (c_sp_Md_readQ hf (by omega) hy10) (fun hby10 => ?_)
          refine gm_if k_Md_readP rfl rfl rfl (fun h11 => ?_) (fun h11 => ?_)
          · skip
            rw [if_neg (show ¬ (y10.1 = 0) from h11)] at hp
            refine gm_p k_Md_readP rfl rfl ?_
            refine gm_g k_Md_readP rfl rfl rfl rfl ?_
            refine gm_p k_Md_readP rfl rfl ?_
            refine gm_p k_Md_readP rfl rfl ?_
            refine gm_g k_Md_readP rfl rfl rfl rfl ?_
            by_cases g12 : gi v2 2600 = true
            · rw [if_pos g12] at hp
              refine gm_sto k_Md_readP rfl rfl (gi_in g12) (by decide) ?_
              refine gm_p k_Md_readP rfl rfl ?_
              refine gm_g k_Md_readP rfl rfl rfl rfl ?_
              refine gm_p (L' := [some (.ref a), some (.int v1), some (.int (y10.2.1 34))]) (st' := []) k_Md_readP rfl rfl ?_
              refine gm_j k_Md_readP rfl rfl ?_
              exact ihm _ _ _ hp
            · rw [if_neg g12] at hp
              cases hp
          · skip
            rw [if_pos (show y10.1 = 0 from h11)] at hp
            refine gm_p k_Md_readP rfl rfl ?_
            cases hp
            exact gm_ret (v := some (.int _)) k_Md_readP rfl rfl (Or.inl rfl) rfl ⟨rfl, rfl⟩
def sp_Md_readP (f : gm_S → Option (Int32 × gm_S))  (σ : gm_S) : Option (Int32 × gm_S) := (match sp_Md_readQ f  σ with
  | none => none
  | some y1 => (if y1.1 = 0 then some (0, y1.2) else (match sp_Md_see   y1.2 with
  | none => none
  | some y3 => (if y3.1 = 124 then (match sp_Md_makePart  10 (-1) 0 y3.2 with
  | none => none
  | some y5 => (if gi y5.1 2600 = true then sp_Md_readP_44 f  2601 y5.1 (y5.2.1 34) (y5.2.1, (gm_up y5.2.2 23 (upd (y5.2.2 23) y5.1.toNatClampNeg (y5.2.1 34)))) else none)) else some (1, y3.2)))))
theorem c_sp_Md_readP (hf : mr_IH l F a A D f) (hD : D ≤ d)  {σ : gm_S} {r : Int32 × gm_S} (hp : sp_Md_readP f  σ = some r) : gm_Has l F (d + 7) m_Md_readP a A [] σ (fun w σ' => w = some (.int r.1) ∧ σ' = r.2) := by
  refine gm_meth (k := 2) (L := [some (.ref a), none, none]) pn_Md rfl (Nat.le_of_ble_eq_true rfl) ?_
  unfold sp_Md_readP at hp
  refine gm_p k_Md_readP rfl rfl ?_
  cases hy1 : sp_Md_readQ f  σ with
  | none =>
    rw [hy1] at hp
    cases hp
  | some y1 =>
    rw [hy1] at hp
    dsimp only at hp
    refine gm_ivB (M' := m_Md_readQ) (As := []) k_Md_readP rfl rfl rfl rfl rfl rfl (Nat.le_of_ble_eq_true rfl) (c_sp_Md_readQ hf (by omega) hy1) (fun hby1 => ?_)
    refine gm_if k_Md_readP rfl rfl rfl (fun h2 => ?_) (fun h2 => ?_)
    · skip
      rw [if_neg (show ¬ (y1.1 = 0) from h2)] at hp
      refine gm_p k_Md_readP rfl rfl ?_
      cases hy3 : sp_Md_see   y1.2 with
      | none =>
        rw [hy3] at hp
        cases hp
      | some y3 =>
        rw [hy3] at hp
        dsimp only at hp
        refine gm_ivB (M' := m_Md_see) (As := []) k_Md_readP rfl rfl rfl rfl rfl rfl (Nat.le_of_ble_eq_true rfl) (c_sp_Md_see  hy3) (fun hby3 => ?_)
        refine gm_p k_Md_readP rfl rfl ?_
        refine gm_ic k_Md_readP rfl rfl rfl (fun h4 => ?_) (fun h4 => ?_)
        · skip
          rw [if_pos (show y3.1 = 124 from h4)] at hp
          refine gm_p k_Md_readP rfl rfl ?_
          refine gm_p k_Md_readP rfl rfl ?_
          refine gm_p k_Md_readP rfl rfl ?_
          refine gm_p k_Md_readP rfl rfl ?_
          cases hy5 : sp_Md_makePart  10 (-1) 0 y3.2 with
          | none =>
            rw [hy5] at hp
            cases hp
          | some y5 =>
            rw [hy5] at hp
            dsimp only at hp
            refine gm_ivB (M' := m_Md_makePart) (As := [.int 10, .int (-1), .int 0]) k_Md_readP rfl rfl rfl rfl rfl rfl (Nat.le_of_ble_eq_true rfl) (c_sp_Md_makePart  hy5) (fun hby5 => ?_)
            refine gm_p (L' := [some (.ref a), some (.int y5.1), none]) (st' := []) k_Md_readP rfl rfl ?_
            refine gm_p k_Md_readP rfl rfl ?_
            refine gm_g k_Md_readP rfl rfl rfl rfl ?_
            refine gm_p k_Md_readP rfl rfl ?_
            refine gm_p k_Md_readP rfl rfl ?_
            refine gm_g k_Md_readP rfl rfl rfl rfl ?_
            by_cases g6 : gi y5.1 2600 = true
            · rw [if_pos g6] at hp
              refine gm_sto k_Md_readP rfl rfl (gi_in g6) (by decide) ?_
              refine gm_p k_Md_readP rfl rfl ?_
              refine gm_g k_Md_readP rfl rfl rfl rfl ?_
              refine gm_p (L' := [some (.ref a), some (.int y5.1), some (.int (y5.2.1 34))]) (st' := []) k_Md_readP rfl rfl ?_
              exact c_sp_Md_readP_44 hf (by omega)  _ _ _ _ hp
            · rw [if_neg g6] at hp
              cases hp
        · skip
          rw [if_neg (show ¬ (y3.1 = 124) from h4)] at hp
          refine gm_p k_Md_readP rfl rfl ?_
          cases hp
          exact gm_ret (v := some (.int _)) k_Md_readP rfl rfl (Or.inr rfl) rfl ⟨rfl, rfl⟩
    · skip
      rw [if_pos (show y1.1 = 0 from h2)] at hp
      refine gm_p k_Md_readP rfl rfl ?_
      cases hp
      exact gm_ret (v := some (.int _)) k_Md_readP rfl rfl (Or.inl rfl) rfl ⟨rfl, rfl⟩
def rp : Nat → gm_S → Option (Int32 × gm_S)
  | 0 => fun _ => none
  | n + 1 => fun σ => sp_Md_readP (rp n) σ
theorem c_rp (n : Nat) : mr_IH l F a A (7 * n) (rp n) := by
  induction n with
  | zero => exact fun _ _ _ _ h => nomatch h
  | succ n ih =>
    intro dd σ r hd h
    obtain ⟨d, rfl⟩ : ∃ d, dd = d + 7 := ⟨dd - 7, by omega⟩
    exact c_sp_Md_readP ih (by omega) h
def sp_Md_tell  (v1 : Int32) (σ : gm_S) : Option (gm_S) := (match sp_Md_see   σ with
  | none => none
  | some y1 => (if gi (y1.1 - 97) 26 = true then (if ((y1.2.2 31) (y1.1 - 97).toNatClampNeg) = 0 then (if v1 = 1 then (if gi (y1.2.1 10) 7 = true then (if gi ((26 * (y1.2.1 10)) + ((y1.2.2 12) (y1.2.1 10).toNatClampNeg)) 182 = true then some ((upd y1.2.1 27 ((y1.2.1 27) + 1)), (gm_up (gm_up (gm_up y1.2.2 13 (upd (y1.2.2 13) ((26 * (y1.2.1 10)) + ((y1.2.2 12) (y1.2.1 10).toNatClampNeg)).toNatClampNeg (y1.1 - 97))) 12 (upd (y1.2.2 12) (y1.2.1 10).toNatClampNeg (((y1.2.2 12) (y1.2.1 10).toNatClampNeg) + 1))) 31 (upd (y1.2.2 31) (y1.1 - 97).toNatClampNeg v1))) else none) else none) else (if gi (y1.2.1 10) 7 = true then (if gi ((26 * (y1.2.1 10)) + ((y1.2.2 14) (y1.2.1 10).toNatClampNeg)) 182 = true then some ((upd y1.2.1 27 ((y1.2.1 27) + 1)), (gm_up (gm_up (gm_up y1.2.2 15 (upd (y1.2.2 15) ((26 * (y1.2.1 10)) + ((y1.2.2 14) (y1.2.1 10).toNatClampNeg)).toNatClampNeg (y1.1 - 97))) 14 (upd (y1.2.2 14) (y1.2.1 10).toNatClampNeg (((y1.2.2 14) (y1.2.1 10).toNatClampNeg) + 1))) 31 (upd (y1.2.2 31) (y1.1 - 97).toNatClampNeg v1))) else none) else none)) else (match sp_Md_note  2 (y1.2.1 27) y1.2 with
  | none => none
  | some y11 => (if ((y11.2 31) (y1.1 - 97).toNatClampNeg) = 0 then some ((upd y11.1 27 ((y11.1 27) + 1)), (gm_up y11.2 31 (upd (y11.2 31) (y1.1 - 97).toNatClampNeg v1))) else some ((upd y11.1 27 ((y11.1 27) + 1)), (gm_up y11.2 31 (upd (y11.2 31) (y1.1 - 97).toNatClampNeg ((y11.2 31) (y1.1 - 97).toNatClampNeg))))))) else none))
theorem c_sp_Md_tell  {v1 : Int32} {σ : gm_S} {r : gm_S} (hp : sp_Md_tell  v1 σ = some r) : gm_Has l F (d + 1) m_Md_tell a A [.int v1] σ (fun w σ' => w = none ∧ σ' = r) := by
  refine gm_meth (k := 1) (L := [some (.ref a), some (.int v1), none]) pn_Md rfl (Nat.le_of_ble_eq_true rfl) ?_
  unfold sp_Md_tell at hp
  refine gm_p k_Md_tell rfl rfl ?_
  cases hy1 : sp_Md_see   σ with
  | none =>
    rw [hy1] at hp
    cases hp
  | some y1 =>
    rw [hy1] at hp
    dsimp only at hp
    refine gm_ivB (M' := m_Md_see) (As := []) k_Md_tell rfl rfl rfl rfl rfl rfl (Nat.le_of_ble_eq_true rfl) (c_sp_Md_see  hy1) (fun hby1 => ?_)
    refine gm_p k_Md_tell rfl rfl ?_
    refine gm_p k_Md_tell rfl rfl ?_
    refine gm_p (L' := [some (.ref a), some (.int v1), some (.int (y1.1 - 97))]) (st' := []) k_Md_tell rfl rfl ?_
    refine gm_p k_Md_tell rfl rfl ?_
    refine gm_g k_Md_tell rfl rfl rfl rfl ?_
    refine gm_p k_Md_tell rfl rfl ?_
    by_cases g2 : gi (y1.1 - 97) 26 = true
    · rw [if_pos g2] at hp
      refine gm_ld k_Md_tell rfl rfl (gi_in g2) (by decide) ?_
      refine gm_if k_Md_tell rfl rfl rfl (fun h3 => ?_) (fun h3 => ?_)
      · skip
        rw [if_pos (show ((y1.2.2 31) (y1.1 - 97).toNatClampNeg) = 0 from h3)] at hp
        refine gm_p k_Md_tell rfl rfl ?_
        refine gm_p k_Md_tell rfl rfl ?_
        refine gm_ic k_Md_tell rfl rfl rfl (fun h4 => ?_) (fun h4 => ?_)
        · skip
          rw [if_neg (show ¬ (v1 = 1) from h4)] at hp
          refine gm_p k_Md_tell rfl rfl ?_
          refine gm_g k_Md_tell rfl rfl rfl rfl ?_
          refine gm_p k_Md_tell rfl rfl ?_
          refine gm_p k_Md_tell rfl rfl ?_
          refine gm_g k_Md_tell rfl rfl rfl rfl ?_
          refine gm_p k_Md_tell rfl rfl ?_
          refine gm_p k_Md_tell rfl rfl ?_
          refine gm_g k_Md_tell rfl rfl rfl rfl ?_
          refine gm_p k_Md_tell rfl rfl ?_
          refine gm_g k_Md_tell rfl rfl rfl rfl ?_
          by_cases g5 : gi (y1.2.1 10) 7 = true
          · rw [if_pos g5] at hp
            refine gm_ld k_Md_tell rfl rfl (gi_in g5) (by decide) ?_
            refine gm_p k_Md_tell rfl rfl ?_
            refine gm_p k_Md_tell rfl rfl ?_
            by_cases g6 : gi ((26 * (y1.2.1 10)) + ((y1.2.2 14) (y1.2.1 10).toNatClampNeg)) 182 = true
            · rw [if_pos g6] at hp
              refine gm_sto k_Md_tell rfl rfl (gi_in g6) (by decide) ?_
              refine gm_p k_Md_tell rfl rfl ?_
              refine gm_g k_Md_tell rfl rfl rfl rfl ?_
              refine gm_p k_Md_tell rfl rfl ?_
              refine gm_g k_Md_tell rfl rfl rfl rfl ?_
              refine gm_p k_Md_tell rfl rfl ?_
              refine gm_ld k_Md_tell rfl rfl (gi_in g5) (by decide) ?_
              refine gm_p k_Md_tell rfl rfl ?_
              refine gm_p k_Md_tell rfl rfl ?_
              refine gm_sto k_Md_tell rfl rfl (gi_in g5) (by decide) ?_
              refine gm_p k_Md_tell rfl rfl ?_
              refine gm_g k_Md_tell rfl rfl rfl rfl ?_
              refine gm_p k_Md_tell rfl rfl ?_
              refine gm_p k_Md_tell rfl rfl ?_
              refine gm_g k_Md_tell rfl rfl rfl rfl ?_
              refine gm_p k_Md_tell rfl rfl ?_
              refine gm_ld k_Md_tell rfl rfl (gi_in g2) (by decide) ?_
              refine gm_if k_Md_tell rfl rfl rfl (fun h7 => ?_) (fun h7 => ?_)
              · skip
                exact absurd h3 h7
              · skip
                refine gm_p k_Md_tell rfl rfl ?_
                refine gm_j k_Md_tell rfl rfl ?_
                refine gm_sto k_Md_tell rfl rfl (gi_in g2) (by decide) ?_
                refine gm_p k_Md_tell rfl rfl ?_
                refine gm_p k_Md_tell rfl rfl ?_
                refine gm_g k_Md_tell rfl rfl rfl rfl ?_
                refine gm_p k_Md_tell rfl rfl ?_
                refine gm_p k_Md_tell rfl rfl ?_
                refine gm_pt k_Md_tell rfl rfl rfl trivial (by decide) rfl ?_
                cases hp
                exact gm_ret (v := none) k_Md_tell rfl rfl trivial rfl ⟨rfl, rfl⟩
            · rw [if_neg g6] at hp
              cases hp
          · rw [if_neg g5] at hp
            cases hp
        · skip
          rw [if_pos (show v1 = 1 from h4)] at hp
          refine gm_p k_Md_tell rfl rfl ?_
          refine gm_g k_Md_tell rfl rfl rfl rfl ?_
          refine gm_p k_Md_tell rfl rfl ?_
          refine gm_p k_Md_tell rfl rfl ?_
          refine gm_g k_Md_tell rfl rfl rfl rfl ?_
          refine gm_p k_Md_tell rfl rfl ?_
          refine gm_p k_Md_tell rfl rfl ?_
          refine gm_g k_Md_tell rfl rfl rfl rfl ?_
          refine gm_p k_Md_tell rfl rfl ?_
          refine gm_g k_Md_tell rfl rfl rfl rfl ?_
          by_cases g8 : gi (y1.2.1 10) 7 = true
          · rw [if_pos g8] at hp
            refine gm_ld k_Md_tell rfl rfl (gi_in g8) (by decide) ?_
            refine gm_p k_Md_tell rfl rfl ?_
            refine gm_p k_Md_tell rfl rfl ?_
            by_cases g9 : gi ((26 * (y1.2.1 10)) + ((y1.2.2 12) (y1.2.1 10).toNatClampNeg)) 182 = true
            · rw [if_pos g9] at hp
              refine gm_sto k_Md_tell rfl rfl (gi_in g9) (by decide) ?_
              refine gm_p k_Md_tell rfl rfl ?_
              refine gm_g k_Md_tell rfl rfl rfl rfl ?_
              refine gm_p k_Md_tell rfl rfl ?_
              refine gm_g k_Md_tell rfl rfl rfl rfl ?_
              refine gm_p k_Md_tell rfl rfl ?_
              refine gm_ld k_Md_tell rfl rfl (gi_in g8) (by decide) ?_
              refine gm_p k_Md_tell rfl rfl ?_
              refine gm_p k_Md_tell rfl rfl ?_
              refine gm_sto k_Md_tell rfl rfl (gi_in g8) (by decide) ?_
              refine gm_j k_Md_tell rfl rfl ?_
              refine gm_p k_Md_tell rfl rfl ?_
              refine gm_g k_Md_tell rfl rfl rfl rfl ?_
              refine gm_p k_Md_tell rfl rfl ?_
              refine gm_p k_Md_tell rfl rfl ?_
              refine gm_g k_Md_tell rfl rfl rfl rfl ?_
              refine gm_p k_Md_tell rfl rfl ?_
              refine gm_ld k_Md_tell rfl rfl (gi_in g2) (by decide) ?_
              refine gm_if k_Md_tell rfl rfl rfl (fun h10 => ?_) (fun h10 => ?_)
              · skip
                exact absurd h3 h10
              · skip
                refine gm_p k_Md_tell rfl rfl ?_
                refine gm_j k_Md_tell rfl rfl ?_
                refine gm_sto k_Md_tell rfl rfl (gi_in g2) (by decide) ?_
                refine gm_p k_Md_tell rfl rfl ?_
                refine gm_p k_Md_tell rfl rfl ?_
                refine gm_g k_Md_tell rfl rfl rfl rfl ?_
                refine gm_p k_Md_tell rfl rfl ?_
                refine gm_p k_Md_tell rfl rfl ?_
                refine gm_pt k_Md_tell rfl rfl rfl trivial (by decide) rfl ?_
                cases hp
                exact gm_ret (v := none) k_Md_tell rfl rfl trivial rfl ⟨rfl, rfl⟩
            · rw [if_neg g9] at hp
              cases hp
          · rw [if_neg g8] at hp
            cases hp
      · skip
        rw [if_neg (show ¬ (((y1.2.2 31) (y1.1 - 97).toNatClampNeg) = 0) from h3)] at hp
        refine gm_p k_Md_tell rfl rfl ?_
        refine gm_p k_Md_tell rfl rfl ?_
        refine gm_p k_Md_tell rfl rfl ?_
        refine gm_g k_Md_tell rfl rfl rfl rfl ?_
        cases hy11 : sp_Md_note  2 (y1.2.1 27) y1.2 with
        | none =>
          rw [hy11] at hp
          cases hp
        | some y11 =>
          rw [hy11] at hp
          dsimp only at hp
          refine gm_ivV (M' := m_Md_note) (As := [.int 2, .int (y1.2.1 27)]) k_Md_tell rfl rfl rfl rfl rfl rfl (Nat.le_of_ble_eq_true rfl) (c_sp_Md_note  hy11) ?_
          refine gm_j k_Md_tell rfl rfl ?_
          refine gm_p k_Md_tell rfl rfl ?_
          refine gm_g k_Md_tell rfl rfl rfl rfl ?_
          refine gm_p k_Md_tell rfl rfl ?_
          refine gm_p k_Md_tell rfl rfl ?_
          refine gm_g k_Md_tell rfl rfl rfl rfl ?_
          refine gm_p k_Md_tell rfl rfl ?_
          refine gm_ld k_Md_tell rfl rfl (gi_in g2) (by decide) ?_
          refine gm_if k_Md_tell rfl rfl rfl (fun h12 => ?_) (fun h12 => ?_)
          · skip
            rw [if_neg (show ¬ (((y11.2 31) (y1.1 - 97).toNatClampNeg) = 0) from h12)] at hp
            refine gm_p k_Md_tell rfl rfl ?_
            refine gm_g k_Md_tell rfl rfl rfl rfl ?_
            refine gm_p k_Md_tell rfl rfl ?_
            refine gm_ld k_Md_tell rfl rfl (gi_in g2) (by decide) ?_
            refine gm_sto k_Md_tell rfl rfl (gi_in g2) (by decide) ?_
            refine gm_p k_Md_tell rfl rfl ?_
            refine gm_p k_Md_tell rfl rfl ?_
            refine gm_g k_Md_tell rfl rfl rfl rfl ?_
            refine gm_p k_Md_tell rfl rfl ?_
            refine gm_p k_Md_tell rfl rfl ?_
            refine gm_pt k_Md_tell rfl rfl rfl trivial (by decide) rfl ?_
            cases hp
            exact gm_ret (v := none) k_Md_tell rfl rfl trivial rfl ⟨rfl, rfl⟩
          · skip
            rw [if_pos (show ((y11.2 31) (y1.1 - 97).toNatClampNeg) = 0 from h12)] at hp
            refine gm_p k_Md_tell rfl rfl ?_
            refine gm_j k_Md_tell rfl rfl ?_
            refine gm_sto k_Md_tell rfl rfl (gi_in g2) (by decide) ?_
            refine gm_p k_Md_tell rfl rfl ?_
            refine gm_p k_Md_tell rfl rfl ?_
            refine gm_g k_Md_tell rfl rfl rfl rfl ?_
            refine gm_p k_Md_tell rfl rfl ?_
            refine gm_p k_Md_tell rfl rfl ?_
            refine gm_pt k_Md_tell rfl rfl rfl trivial (by decide) rfl ?_
            cases hp
            exact gm_ret (v := none) k_Md_tell rfl rfl trivial rfl ⟨rfl, rfl⟩
    · rw [if_neg g2] at hp
      cases hp
def sp_Md_readProgram_195   : Nat → Int32 → gm_S → Option (Int32 × gm_S)
  | 0, _, _ => none
  | m + 1, v1, σ => (match sp_Md_see   σ with
  | none => none
  | some y17 => (if (q_in y17.1 97 122) = 0 then (match sp_Md_want  123 y17.2 with
  | none => none
  | some y19 => (if y19.1 = 0 then some (0, y19.2) else (match rp 20 y19.2 with
  | none => none
  | some y21 => (if y21.1 = 0 then some (0, y21.2) else (match sp_Md_want  125 y21.2 with
  | none => none
  | some y23 => (if y23.1 = 0 then some (0, y23.2) else (if gi (y23.2.1 10) 7 = true then (if gi ((y23.2.1 10) + 1) 8 = true then some (1, ((upd y23.2.1 10 ((y23.2.1 10) + 1)), (gm_up (gm_up y23.2.2 16 (upd (y23.2.2 16) (y23.2.1 10).toNatClampNeg (y23.2.1 34))) 49 (upd (y23.2.2 49) ((y23.2.1 10) + 1).toNatClampNeg (y23.2.1 19))))) else none) else none))))))) else (match sp_Md_tell  2 y17.2 with
  | none => none
  | some y27 => sp_Md_readProgram_195   m v1 y27)))
theorem c_sp_Md_readProgram_195  {r : Int32 × gm_S} : ∀ (m : Nat) (v1 : Int32) (σ : gm_S), sp_Md_readProgram_195   m v1 σ = some r → gm_Go l F (d + 141) m_Md_readProgram a A 195 ([some (.ref a), some (.int v1)]) [] σ (fun w σ' => w = some (.int r.1) ∧ σ' = r.2) := by
  intro m
  induction m with
  | zero => intro v1 σ hp; cases hp
  | succ m ihm =>
    intro v1 σ hp
    unfold sp_Md_readProgram_195 at hp
    refine gm_p k_Md_readProgram rfl rfl ?_
    cases hy17 : sp_Md_see   σ with
    | none =>
      rw [hy17] at hp
      cases hp
    | some y17 =>
      rw [hy17] at hp
      dsimp only at hp
      refine gm_ivB (M' := m_Md_see) (As := []) k_Md_readProgram rfl rfl rfl rfl rfl rfl (Nat.le_of_ble_eq_true rfl) (c_sp_Md_see  hy17) (fun hby17 => ?_)
      refine gm_p k_Md_readProgram rfl rfl ?_
      refine gm_p k_Md_readProgram rfl rfl ?_
      refine gm_is (M' := m_Md_in) (As := [.int y17.1, .int 97, .int 122]) k_Md_readProgram rfl rfl rfl rfl rfl rfl (Nat.le_of_ble_eq_true rfl) (fun h => c_Md_inQ y17.1 97 122 h) ?_
      refine gm_if k_Md_readProgram rfl rfl rfl (fun h18 => ?_) (fun h18 => ?_)
      · skip
        rw [if_pos (show (q_in y17.1 97 122) = 0 from h18)] at hp
        refine gm_p k_Md_readProgram rfl rfl ?_
        refine gm_p k_Md_readProgram rfl rfl ?_
        cases hy19 : sp_Md_want  123 y17.2 with
        | none =>
          rw [hy19] at hp
          cases hp
        | some y19 =>
          rw [hy19] at hp
          dsimp only at hp
          refine gm_ivB (M' := m_Md_want) (As := [.int 123]) k_Md_readProgram rfl rfl rfl rfl rfl rfl (Nat.le_of_ble_eq_true rfl) (c_sp_Md_want  hy19) (fun hby19 => ?_)
          refine gm_if k_Md_readProgram rfl rfl rfl (fun h20 => ?_) (fun h20 => ?_)
          · skip
            rw [if_pos (show y19.1 = 0 from h20)] at hp
            refine gm_p k_Md_readProgram rfl rfl ?_
            cases hp
            exact gm_ret (v := some (.int _)) k_Md_readProgram rfl rfl (Or.inl rfl) rfl ⟨rfl, rfl⟩
          · skip
            rw [if_neg (show ¬ (y19.1 = 0) from h20)] at hp
            refine gm_p k_Md_readProgram rfl rfl ?_
            cases hy21 : rp 20 y19.2 with
            | none =>
              rw [hy21] at hp
              cases hp
            | some y21 =>
              rw [hy21] at hp
              dsimp only at hp
              refine gm_ivB (M' := m_Md_readP) (As := []) k_Md_readProgram rfl rfl rfl rfl rfl rfl (Nat.le_of_ble_eq_true rfl) (c_rp 20 _ _ _ (by omega) hy21) (fun hby21 => ?_)
              refine gm_if k_Md_readProgram rfl rfl rfl (fun h22 => ?_) (fun h22 => ?_)
              · skip
                rw [if_pos (show y21.1 = 0 from h22)] at hp
                refine gm_p k_Md_readProgram rfl rfl ?_
                cases hp
                exact gm_ret (v := some (.int _)) k_Md_readProgram rfl rfl (Or.inl rfl) rfl ⟨rfl, rfl⟩
              · skip
                rw [if_neg (show ¬ (y21.1 = 0) from h22)] at hp
                refine gm_p k_Md_readProgram rfl rfl ?_
                refine gm_p k_Md_readProgram rfl rfl ?_
                cases hy23 : sp_Md_want  125 y21.2 with
                | none =>
                  rw [hy23] at hp
                  cases hp
                | some y23 =>
                  rw [hy23] at hp
                  dsimp only at hp
                  refine gm_ivB (M' := m_Md_want) (As := [.int 125]) k_Md_readProgram rfl rfl rfl rfl rfl rfl (Nat.le_of_ble_eq_true rfl) (c_sp_Md_want  hy23) (fun hby23 => ?_)
                  refine gm_if k_Md_readProgram rfl rfl rfl (fun h24 => ?_) (fun h24 => ?_)
                  · skip
                    rw [if_neg (show ¬ (y23.1 = 0) from h24)] at hp
                    refine gm_p k_Md_readProgram rfl rfl ?_
                    refine gm_g k_Md_readProgram rfl rfl rfl rfl ?_
                    refine gm_p k_Md_readProgram rfl rfl ?_
                    refine gm_g k_Md_readProgram rfl rfl rfl rfl ?_
                    refine gm_p k_Md_readProgram rfl rfl ?_
                    refine gm_g k_Md_readProgram rfl rfl rfl rfl ?_
                    by_cases g25 : gi (y23.2.1 10) 7 = true
                    · rw [if_pos g25] at hp
                      refine gm_sto k_Md_readProgram rfl rfl (gi_in g25) (by decide) ?_
                      refine gm_p k_Md_readProgram rfl rfl ?_
                      refine gm_p k_Md_readProgram rfl rfl ?_
                      refine gm_g k_Md_readProgram rfl rfl rfl rfl ?_
                      refine gm_p k_Md_readProgram rfl rfl ?_
                      refine gm_p k_Md_readProgram rfl rfl ?_
                      refine gm_pt k_Md_readProgram rfl rfl rfl trivial (by decide) rfl ?_
                      refine gm_p k_Md_readProgram rfl rfl ?_
                      refine gm_g k_Md_readProgram rfl rfl rfl rfl ?_
                      refine gm_p k_Md_readProgram rfl rfl ?_
                      refine gm_g k_Md_readProgram rfl rfl rfl rfl ?_
                      refine gm_p k_Md_readProgram rfl rfl ?_
                      refine gm_g k_Md_readProgram rfl rfl rfl rfl ?_
                      by_cases g26 : gi ((y23.2.1 10) + 1) 8 = true
                      · rw [if_pos g26] at hp
                        refine gm_sto k_Md_readProgram rfl rfl (gi_in g26) (by decide) ?_
                        refine gm_p k_Md_readProgram rfl rfl ?_
                        cases hp
                        exact gm_ret (v := some (.int _)) k_Md_readProgram rfl rfl (Or.inr rfl) rfl ⟨rfl, rfl⟩
                      · rw [if_neg g26] at hp
                        cases hp
                    · rw [if_neg g25] at hp
                      cases hp
                  · skip
                    rw [if_pos (show y23.1 = 0 from h24)] at hp
                    refine gm_p k_Md_readProgram rfl rfl ?_
                    cases hp
                    exact gm_ret (v := some (.int _)) k_Md_readProgram rfl rfl (Or.inl rfl) rfl ⟨rfl, rfl⟩
      · skip
        rw [if_neg (show ¬ ((q_in y17.1 97 122) = 0) from h18)] at hp
        refine gm_p k_Md_readProgram rfl rfl ?_
        refine gm_p k_Md_readProgram rfl rfl ?_
        cases hy27 : sp_Md_tell  2 y17.2 with
        | none =>
          rw [hy27] at hp
          cases hp
        | some y27 =>
          rw [hy27] at hp
          dsimp only at hp
          refine gm_ivV (M' := m_Md_tell) (As := [.int 2]) k_Md_readProgram rfl rfl rfl rfl rfl rfl (Nat.le_of_ble_eq_true rfl) (c_sp_Md_tell  hy27) ?_
          refine gm_j k_Md_readProgram rfl rfl ?_
          exact ihm _ _ hp
def sp_Md_readProgram_148   : Nat → Int32 → gm_S → Option (Int32 × gm_S)
  | 0, _, _ => none
  | m + 1, v1, σ => (match sp_Md_see   σ with
  | none => none
  | some y11 => (if (q_in y11.1 97 122) = 0 then (match sp_Md_want  41 y11.2 with
  | none => none
  | some y13 => (if y13.1 = 0 then some (0, y13.2) else (match sp_Md_see   y13.2 with
  | none => none
  | some y15 => (if (q_in y15.1 97 122) = 0 then some (0, y15.2) else sp_Md_readProgram_195   2601 v1 y15.2)))) else (match sp_Md_tell  1 y11.2 with
  | none => none
  | some y28 => sp_Md_readProgram_148   m v1 y28)))
theorem c_sp_Md_readProgram_148  {r : Int32 × gm_S} : ∀ (m : Nat) (v1 : Int32) (σ : gm_S), sp_Md_readProgram_148   m v1 σ = some r → gm_Go l F (d + 141) m_Md_readProgram a A 148 ([some (.ref a), some (.int v1)]) [] σ (fun w σ' => w = some (.int r.1) ∧ σ' = r.2) := by
  intro m
  induction m with
  | zero => intro v1 σ hp; cases hp
  | succ m ihm =>
    intro v1 σ hp
    unfold sp_Md_readProgram_148 at hp
    refine gm_p k_Md_readProgram rfl rfl ?_
    cases hy11 : sp_Md_see   σ with
    | none =>
      rw [hy11] at hp
      cases hp
    | some y11 =>
      rw [hy11] at hp
      dsimp only at hp
      refine gm_ivB (M' := m_Md_see) (As := []) k_Md_readProgram rfl rfl rfl rfl rfl rfl (Nat.le_of_ble_eq_true rfl) (c_sp_Md_see  hy11) (fun hby11 => ?_)
      refine gm_p k_Md_readProgram rfl rfl ?_
      refine gm_p k_Md_readProgram rfl rfl ?_
      refine gm_is (M' := m_Md_in) (As := [.int y11.1, .int 97, .int 122]) k_Md_readProgram rfl rfl rfl rfl rfl rfl (Nat.le_of_ble_eq_true rfl) (fun h => c_Md_inQ y11.1 97 122 h) ?_
      refine gm_if k_Md_readProgram rfl rfl rfl (fun h12 => ?_) (fun h12 => ?_)
      · skip
        rw [if_pos (show (q_in y11.1 97 122) = 0 from h12)] at hp
        refine gm_p k_Md_readProgram rfl rfl ?_
        refine gm_p k_Md_readProgram rfl rfl ?_
        cases hy13 : sp_Md_want  41 y11.2 with
        | none =>
          rw [hy13] at hp
          cases hp
        | some y13 =>
          rw [hy13] at hp
          dsimp only at hp
          refine gm_ivB (M' := m_Md_want) (As := [.int 41]) k_Md_readProgram rfl rfl rfl rfl rfl rfl (Nat.le_of_ble_eq_true rfl) (c_sp_Md_want  hy13) (fun hby13 => ?_)
          refine gm_if k_Md_readProgram rfl rfl rfl (fun h14 => ?_) (fun h14 => ?_)
          · skip
            rw [if_pos (show y13.1 = 0 from h14)] at hp
            refine gm_p k_Md_readProgram rfl rfl ?_
            cases hp
            exact gm_ret (v := some (.int _)) k_Md_readProgram rfl rfl (Or.inl rfl) rfl ⟨rfl, rfl⟩
          · skip
            rw [if_neg (show ¬ (y13.1 = 0) from h14)] at hp
            refine gm_p k_Md_readProgram rfl rfl ?_
            cases hy15 : sp_Md_see   y13.2 with
            | none =>
              rw [hy15] at hp
              cases hp
            | some y15 =>
              rw [hy15] at hp
              dsimp only at hp
              refine gm_ivB (M' := m_Md_see) (As := []) k_Md_readProgram rfl rfl rfl rfl rfl rfl (Nat.le_of_ble_eq_true rfl) (c_sp_Md_see  hy15) (fun hby15 => ?_)
              refine gm_p k_Md_readProgram rfl rfl ?_
              refine gm_p k_Md_readProgram rfl rfl ?_
              refine gm_is (M' := m_Md_in) (As := [.int y15.1, .int 97, .int 122]) k_Md_readProgram rfl rfl rfl rfl rfl rfl (Nat.le_of_ble_eq_true rfl) (fun h => c_Md_inQ y15.1 97 122 h) ?_
              refine gm_if k_Md_readProgram rfl rfl rfl (fun h16 => ?_) (fun h16 => ?_)
              · skip
                rw [if_neg (show ¬ ((q_in y15.1 97 122) = 0) from h16)] at hp
                exact c_sp_Md_readProgram_195   _ _ _ hp
              · skip
                rw [if_pos (show (q_in y15.1 97 122) = 0 from h16)] at hp
                refine gm_p k_Md_readProgram rfl rfl ?_
                cases hp
                exact gm_ret (v := some (.int _)) k_Md_readProgram rfl rfl (Or.inl rfl) rfl ⟨rfl, rfl⟩
      · skip
        rw [if_neg (show ¬ ((q_in y11.1 97 122) = 0) from h12)] at hp
        refine gm_p k_Md_readProgram rfl rfl ?_
        refine gm_p k_Md_readProgram rfl rfl ?_
        cases hy28 : sp_Md_tell  1 y11.2 with
        | none =>
          rw [hy28] at hp
          cases hp
        | some y28 =>
          rw [hy28] at hp
          dsimp only at hp
          refine gm_ivV (M' := m_Md_tell) (As := [.int 1]) k_Md_readProgram rfl rfl rfl rfl rfl rfl (Nat.le_of_ble_eq_true rfl) (c_sp_Md_tell  hy28) ?_
          refine gm_j k_Md_readProgram rfl rfl ?_
          exact ihm _ _ hp
def sp_Md_readProgram_118   : Nat → Int32 → gm_S → Option (Int32 × gm_S)
  | 0, _, _ => none
  | m + 1, v1, σ => (if (26 : Int32) ≤ v1 then (match sp_Md_want  40 σ with
  | none => none
  | some y9 => (if y9.1 = 0 then some (0, y9.2) else sp_Md_readProgram_148   2601 v1 y9.2)) else (if gi v1 26 = true then sp_Md_readProgram_118   m (v1 + 1) (σ.1, (gm_up σ.2 31 (upd (σ.2 31) v1.toNatClampNeg 0))) else none))
theorem c_sp_Md_readProgram_118  {r : Int32 × gm_S} : ∀ (m : Nat) (v1 : Int32) (σ : gm_S), sp_Md_readProgram_118   m v1 σ = some r → gm_Go l F (d + 141) m_Md_readProgram a A 118 ([some (.ref a), some (.int v1)]) [] σ (fun w σ' => w = some (.int r.1) ∧ σ' = r.2) := by
  intro m
  induction m with
  | zero => intro v1 σ hp; cases hp
  | succ m ihm =>
    intro v1 σ hp
    unfold sp_Md_readProgram_118 at hp
    refine gm_p k_Md_readProgram rfl rfl ?_
    refine gm_p k_Md_readProgram rfl rfl ?_
    refine gm_ic k_Md_readProgram rfl rfl rfl (fun h8 => ?_) (fun h8 => ?_)
    · skip
      rw [if_pos (show (26 : Int32) ≤ v1 from h8)] at hp
      refine gm_p k_Md_readProgram rfl rfl ?_
      refine gm_p k_Md_readProgram rfl rfl ?_
      cases hy9 : sp_Md_want  40 σ with
      | none =>
        rw [hy9] at hp
        cases hp
      | some y9 =>
        rw [hy9] at hp
        dsimp only at hp
        refine gm_ivB (M' := m_Md_want) (As := [.int 40]) k_Md_readProgram rfl rfl rfl rfl rfl rfl (Nat.le_of_ble_eq_true rfl) (c_sp_Md_want  hy9) (fun hby9 => ?_)
        refine gm_if k_Md_readProgram rfl rfl rfl (fun h10 => ?_) (fun h10 => ?_)
        · skip
          rw [if_neg (show ¬ (y9.1 = 0) from h10)] at hp
          exact c_sp_Md_readProgram_148   _ _ _ hp
        · skip
          rw [if_pos (show y9.1 = 0 from h10)] at hp
          refine gm_p k_Md_readProgram rfl rfl ?_
          cases hp
          exact gm_ret (v := some (.int _)) k_Md_readProgram rfl rfl (Or.inl rfl) rfl ⟨rfl, rfl⟩
    · skip
      rw [if_neg (show ¬ ((26 : Int32) ≤ v1) from h8)] at hp
      refine gm_p k_Md_readProgram rfl rfl ?_
      refine gm_g k_Md_readProgram rfl rfl rfl rfl ?_
      refine gm_p k_Md_readProgram rfl rfl ?_
      refine gm_p k_Md_readProgram rfl rfl ?_
      by_cases g29 : gi v1 26 = true
      · rw [if_pos g29] at hp
        refine gm_sto k_Md_readProgram rfl rfl (gi_in g29) (by decide) ?_
        refine gm_p (L' := [some (.ref a), some (.int (v1 + 1))]) (st' := []) k_Md_readProgram rfl rfl ?_
        refine gm_j k_Md_readProgram rfl rfl ?_
        exact ihm _ _ hp
      · rw [if_neg g29] at hp
        cases hp
def sp_Md_readProgram_27   : Nat → Int32 → gm_S → Option (Int32 × gm_S)
  | 0, _, _ => none
  | m + 1, v1, σ => (if (σ.1 10) ≤ v1 then (match sp_Md_see   σ with
  | none => none
  | some y5 => (if gi (σ.1 10) 7 = true then (if gi (y5.2.1 10) 7 = true then sp_Md_readProgram_118   2601 0 ((upd y5.2.1 27 ((y5.2.1 27) + 1)), (gm_up (gm_up (gm_up (gm_up y5.2.2 11 (upd (y5.2.2 11) (σ.1 10).toNatClampNeg y5.1)) 12 (upd (y5.2.2 12) (y5.2.1 10).toNatClampNeg 0)) 14 (upd (y5.2.2 14) (y5.2.1 10).toNatClampNeg 0)) 17 (upd (y5.2.2 17) (y5.2.1 10).toNatClampNeg 0))) else none) else none)) else (if gi v1 7 = true then (match sp_Md_see   σ with
  | none => none
  | some y31 => (if ((σ.2 11) v1.toNatClampNeg) = y31.1 then (match sp_Md_note  2 (y31.2.1 27) y31.2 with
  | none => none
  | some y33 => sp_Md_readProgram_27   m (v1 + 1) y33) else sp_Md_readProgram_27   m (v1 + 1) y31.2)) else none))
theorem c_sp_Md_readProgram_27  {r : Int32 × gm_S} : ∀ (m : Nat) (v1 : Int32) (σ : gm_S), sp_Md_readProgram_27   m v1 σ = some r → gm_Go l F (d + 141) m_Md_readProgram a A 27 ([some (.ref a), some (.int v1)]) [] σ (fun w σ' => w = some (.int r.1) ∧ σ' = r.2) := by
  intro m
  induction m with
  | zero => intro v1 σ hp; cases hp
  | succ m ihm =>
    intro v1 σ hp
    unfold sp_Md_readProgram_27 at hp
    refine gm_p k_Md_readProgram rfl rfl ?_
    refine gm_p k_Md_readProgram rfl rfl ?_
    refine gm_g k_Md_readProgram rfl rfl rfl rfl ?_
    refine gm_ic k_Md_readProgram rfl rfl rfl (fun h4 => ?_) (fun h4 => ?_)
    · skip
      rw [if_pos (show (σ.1 10) ≤ v1 from h4)] at hp
      refine gm_p k_Md_readProgram rfl rfl ?_
      refine gm_g k_Md_readProgram rfl rfl rfl rfl ?_
      refine gm_p k_Md_readProgram rfl rfl ?_
      refine gm_g k_Md_readProgram rfl rfl rfl rfl ?_
      refine gm_p k_Md_readProgram rfl rfl ?_
      cases hy5 : sp_Md_see   σ with
      | none =>
        rw [hy5] at hp
        cases hp
      | some y5 =>
        rw [hy5] at hp
        dsimp only at hp
        refine gm_ivB (M' := m_Md_see) (As := []) k_Md_readProgram rfl rfl rfl rfl rfl rfl (Nat.le_of_ble_eq_true rfl) (c_sp_Md_see  hy5) (fun hby5 => ?_)
        by_cases g6 : gi (σ.1 10) 7 = true
        · rw [if_pos g6] at hp
          refine gm_sto k_Md_readProgram rfl rfl (gi_in g6) (by decide) ?_
          refine gm_p k_Md_readProgram rfl rfl ?_
          refine gm_p k_Md_readProgram rfl rfl ?_
          refine gm_g k_Md_readProgram rfl rfl rfl rfl ?_
          refine gm_p k_Md_readProgram rfl rfl ?_
          refine gm_p k_Md_readProgram rfl rfl ?_
          refine gm_pt k_Md_readProgram rfl rfl rfl trivial (by decide) rfl ?_
          refine gm_p k_Md_readProgram rfl rfl ?_
          refine gm_g k_Md_readProgram rfl rfl rfl rfl ?_
          refine gm_p k_Md_readProgram rfl rfl ?_
          refine gm_g k_Md_readProgram rfl rfl rfl rfl ?_
          refine gm_p k_Md_readProgram rfl rfl ?_
          by_cases g7 : gi (y5.2.1 10) 7 = true
          · rw [if_pos g7] at hp
            refine gm_sto k_Md_readProgram rfl rfl (gi_in g7) (by decide) ?_
            refine gm_p k_Md_readProgram rfl rfl ?_
            refine gm_g k_Md_readProgram rfl rfl rfl rfl ?_
            refine gm_p k_Md_readProgram rfl rfl ?_
            refine gm_g k_Md_readProgram rfl rfl rfl rfl ?_
            refine gm_p k_Md_readProgram rfl rfl ?_
            refine gm_sto k_Md_readProgram rfl rfl (gi_in g7) (by decide) ?_
            refine gm_p k_Md_readProgram rfl rfl ?_
            refine gm_g k_Md_readProgram rfl rfl rfl rfl ?_
            refine gm_p k_Md_readProgram rfl rfl ?_
            refine gm_g k_Md_readProgram rfl rfl rfl rfl ?_
            refine gm_p k_Md_readProgram rfl rfl ?_
            refine gm_sto k_Md_readProgram rfl rfl (gi_in g7) (by decide) ?_
            refine gm_p k_Md_readProgram rfl rfl ?_
            refine gm_p (L' := [some (.ref a), some (.int 0)]) (st' := []) k_Md_readProgram rfl rfl ?_
            exact c_sp_Md_readProgram_118   _ _ _ hp
          · rw [if_neg g7] at hp
            cases hp
        · rw [if_neg g6] at hp
          cases hp
    · skip
      rw [if_neg (show ¬ ((σ.1 10) ≤ v1) from h4)] at hp
      refine gm_p k_Md_readProgram rfl rfl ?_
      refine gm_g k_Md_readProgram rfl rfl rfl rfl ?_
      refine gm_p k_Md_readProgram rfl rfl ?_
      by_cases g30 : gi v1 7 = true
      · rw [if_pos g30] at hp
        refine gm_ld k_Md_readProgram rfl rfl (gi_in g30) (by decide) ?_
        refine gm_p k_Md_readProgram rfl rfl ?_
        cases hy31 : sp_Md_see   σ with
        | none =>
          rw [hy31] at hp
          cases hp
        | some y31 =>
          rw [hy31] at hp
          dsimp only at hp
          refine gm_ivB (M' := m_Md_see) (As := []) k_Md_readProgram rfl rfl rfl rfl rfl rfl (Nat.le_of_ble_eq_true rfl) (c_sp_Md_see  hy31) (fun hby31 => ?_)
          refine gm_ic k_Md_readProgram rfl rfl rfl (fun h32 => ?_) (fun h32 => ?_)
          · skip
            rw [if_neg (show ¬ (((σ.2 11) v1.toNatClampNeg) = y31.1) from h32)] at hp
            refine gm_p (L' := [some (.ref a), some (.int (v1 + 1))]) (st' := []) k_Md_readProgram rfl rfl ?_
            refine gm_j k_Md_readProgram rfl rfl ?_
            exact ihm _ _ hp
          · skip
            rw [if_pos (show ((σ.2 11) v1.toNatClampNeg) = y31.1 from h32)] at hp
            refine gm_p k_Md_readProgram rfl rfl ?_
            refine gm_p k_Md_readProgram rfl rfl ?_
            refine gm_p k_Md_readProgram rfl rfl ?_
            refine gm_g k_Md_readProgram rfl rfl rfl rfl ?_
            cases hy33 : sp_Md_note  2 (y31.2.1 27) y31.2 with
            | none =>
              rw [hy33] at hp
              cases hp
            | some y33 =>
              rw [hy33] at hp
              dsimp only at hp
              refine gm_ivV (M' := m_Md_note) (As := [.int 2, .int (y31.2.1 27)]) k_Md_readProgram rfl rfl rfl rfl rfl rfl (Nat.le_of_ble_eq_true rfl) (c_sp_Md_note  hy33) ?_
              refine gm_p (L' := [some (.ref a), some (.int (v1 + 1))]) (st' := []) k_Md_readProgram rfl rfl ?_
              refine gm_j k_Md_readProgram rfl rfl ?_
              exact ihm _ _ hp
      · rw [if_neg g30] at hp
        cases hp
def sp_Md_readProgram   (σ : gm_S) : Option (Int32 × gm_S) := (match sp_Md_see   σ with
  | none => none
  | some y1 => (if (q_in y1.1 65 70) = 0 then some (0, y1.2) else (if (y1.2.1 10) = 6 then some (0, y1.2) else sp_Md_readProgram_27   2601 0 y1.2)))
theorem c_sp_Md_readProgram   {σ : gm_S} {r : Int32 × gm_S} (hp : sp_Md_readProgram   σ = some r) : gm_Has l F (d + 141) m_Md_readProgram a A [] σ (fun w σ' => w = some (.int r.1) ∧ σ' = r.2) := by
  refine gm_meth (k := 1) (L := [some (.ref a), none]) pn_Md rfl (Nat.le_of_ble_eq_true rfl) ?_
  unfold sp_Md_readProgram at hp
  refine gm_p k_Md_readProgram rfl rfl ?_
  cases hy1 : sp_Md_see   σ with
  | none =>
    rw [hy1] at hp
    cases hp
  | some y1 =>
    rw [hy1] at hp
    dsimp only at hp
    refine gm_ivB (M' := m_Md_see) (As := []) k_Md_readProgram rfl rfl rfl rfl rfl rfl (Nat.le_of_ble_eq_true rfl) (c_sp_Md_see  hy1) (fun hby1 => ?_)
    refine gm_p k_Md_readProgram rfl rfl ?_
    refine gm_p k_Md_readProgram rfl rfl ?_
    refine gm_is (M' := m_Md_in) (As := [.int y1.1, .int 65, .int 70]) k_Md_readProgram rfl rfl rfl rfl rfl rfl (Nat.le_of_ble_eq_true rfl) (fun h => c_Md_inQ y1.1 65 70 h) ?_
    refine gm_if k_Md_readProgram rfl rfl rfl (fun h2 => ?_) (fun h2 => ?_)
    · skip
      rw [if_pos (show (q_in y1.1 65 70) = 0 from h2)] at hp
      refine gm_p k_Md_readProgram rfl rfl ?_
      cases hp
      exact gm_ret (v := some (.int _)) k_Md_readProgram rfl rfl (Or.inl rfl) rfl ⟨rfl, rfl⟩
    · skip
      rw [if_neg (show ¬ ((q_in y1.1 65 70) = 0) from h2)] at hp
      refine gm_p k_Md_readProgram rfl rfl ?_
      refine gm_g k_Md_readProgram rfl rfl rfl rfl ?_
      refine gm_p k_Md_readProgram rfl rfl ?_
      refine gm_ic k_Md_readProgram rfl rfl rfl (fun h3 => ?_) (fun h3 => ?_)
      · skip
        rw [if_neg (show ¬ ((y1.2.1 10) = 6) from h3)] at hp
        refine gm_p k_Md_readProgram rfl rfl ?_
        refine gm_p (L' := [some (.ref a), some (.int 0)]) (st' := []) k_Md_readProgram rfl rfl ?_
        exact c_sp_Md_readProgram_27   _ _ _ hp
      · skip
        rw [if_pos (show (y1.2.1 10) = 6 from h3)] at hp
        refine gm_p k_Md_readProgram rfl rfl ?_
        cases hp
        exact gm_ret (v := some (.int _)) k_Md_readProgram rfl rfl (Or.inl rfl) rfl ⟨rfl, rfl⟩
def sp_Md_isModule_99   : Nat → Int32 → Int32 → gm_S → Option (Int32 × gm_S)
  | 0, _, _, _ => none
  | m + 1, v1, v2, σ => (if (5 : Int32) ≤ v2 then some (1, σ) else (if gi v2 5 = true then (if ((σ.2 30) v2.toNatClampNeg) = (-1) then sp_Md_isModule_99   m v1 (v2 + 1) ((upd (upd σ.1 36 v2) 37 ((σ.2 30) v2.toNatClampNeg)), σ.2) else some (0, ((upd (upd σ.1 36 v2) 37 ((σ.2 30) v2.toNatClampNeg)), σ.2))) else none))
theorem c_sp_Md_isModule_99  {r : Int32 × gm_S} : ∀ (m : Nat) (v1 : Int32) (v2 : Int32) (σ : gm_S), sp_Md_isModule_99   m v1 v2 σ = some r → gm_Go l F (d + 142) m_Md_isModule a A 99 ([some (.ref a), some (.int v1), some (.int v2)]) [] σ (fun w σ' => w = some (.int r.1) ∧ σ' = r.2) := by
  intro m
  induction m with
  | zero => intro v1 v2 σ hp; cases hp
  | succ m ihm =>
    intro v1 v2 σ hp
    unfold sp_Md_isModule_99 at hp
    refine gm_p k_Md_isModule rfl rfl ?_
    refine gm_p k_Md_isModule rfl rfl ?_
    refine gm_ic k_Md_isModule rfl rfl rfl (fun h7 => ?_) (fun h7 => ?_)
    · skip
      rw [if_pos (show (5 : Int32) ≤ v2 from h7)] at hp
      refine gm_p k_Md_isModule rfl rfl ?_
      cases hp
      exact gm_ret (v := some (.int _)) k_Md_isModule rfl rfl (Or.inr rfl) rfl ⟨rfl, rfl⟩
    · skip
      rw [if_neg (show ¬ ((5 : Int32) ≤ v2) from h7)] at hp
      refine gm_p k_Md_isModule rfl rfl ?_
      refine gm_p k_Md_isModule rfl rfl ?_
      refine gm_pt k_Md_isModule rfl rfl rfl trivial (by decide) rfl ?_
      refine gm_p k_Md_isModule rfl rfl ?_
      refine gm_p k_Md_isModule rfl rfl ?_
      refine gm_g k_Md_isModule rfl rfl rfl rfl ?_
      refine gm_p k_Md_isModule rfl rfl ?_
      by_cases g8 : gi v2 5 = true
      · rw [if_pos g8] at hp
        refine gm_ld k_Md_isModule rfl rfl (gi_in g8) (by decide) ?_
        refine gm_pt k_Md_isModule rfl rfl rfl trivial (by decide) rfl ?_
        refine gm_p k_Md_isModule rfl rfl ?_
        refine gm_g k_Md_isModule rfl rfl rfl rfl ?_
        refine gm_p k_Md_isModule rfl rfl ?_
        refine gm_ld k_Md_isModule rfl rfl (gi_in g8) (by decide) ?_
        refine gm_p k_Md_isModule rfl rfl ?_
        refine gm_ic k_Md_isModule rfl rfl rfl (fun h9 => ?_) (fun h9 => ?_)
        · skip
          rw [if_pos (show ((σ.2 30) v2.toNatClampNeg) = (-1) from h9)] at hp
          refine gm_p (L' := [some (.ref a), some (.int v1), some (.int (v2 + 1))]) (st' := []) k_Md_isModule rfl rfl ?_
          refine gm_j k_Md_isModule rfl rfl ?_
          exact ihm _ _ _ hp
        · skip
          rw [if_neg (show ¬ (((σ.2 30) v2.toNatClampNeg) = (-1)) from h9)] at hp
          refine gm_p k_Md_isModule rfl rfl ?_
          cases hp
          exact gm_ret (v := some (.int _)) k_Md_isModule rfl rfl (Or.inl rfl) rfl ⟨rfl, rfl⟩
      · rw [if_neg g8] at hp
        cases hp
def sp_Md_isModule_55   : Nat → Int32 → gm_S → Option (Int32 × gm_S)
  | 0, _, _ => none
  | m + 1, v1, σ => (if v1 = 0 then some (0, ((upd (upd σ.1 36 1) 37 (σ.1 27)), σ.2)) else (if (σ.1 3) ≤ (σ.1 27) then sp_Md_isModule_99   2601 v1 2 ((upd (upd σ.1 36 1) 37 (σ.1 27)), σ.2) else (match sp_Md_readProgram   σ with
  | none => none
  | some y10 => sp_Md_isModule_55   m y10.1 y10.2)))
theorem c_sp_Md_isModule_55  {r : Int32 × gm_S} : ∀ (m : Nat) (v1 : Int32) (σ : gm_S), sp_Md_isModule_55   m v1 σ = some r → ∀ x2 : Option Value, gm_Go l F (d + 142) m_Md_isModule a A 55 ([some (.ref a), some (.int v1), x2]) [] σ (fun w σ' => w = some (.int r.1) ∧ σ' = r.2) := by
  intro m
  induction m with
  | zero => intro v1 σ hp; cases hp
  | succ m ihm =>
    intro v1 σ hp x2
    unfold sp_Md_isModule_55 at hp
    refine gm_p k_Md_isModule rfl rfl ?_
    refine gm_if k_Md_isModule rfl rfl rfl (fun h3 => ?_) (fun h3 => ?_)
    · skip
      rw [if_pos (show v1 = 0 from h3)] at hp
      refine gm_p k_Md_isModule rfl rfl ?_
      refine gm_p k_Md_isModule rfl rfl ?_
      refine gm_pt k_Md_isModule rfl rfl rfl trivial (by decide) rfl ?_
      refine gm_p k_Md_isModule rfl rfl ?_
      refine gm_p k_Md_isModule rfl rfl ?_
      refine gm_g k_Md_isModule rfl rfl rfl rfl ?_
      refine gm_pt k_Md_isModule rfl rfl rfl trivial (by decide) rfl ?_
      refine gm_p k_Md_isModule rfl rfl ?_
      refine gm_if k_Md_isModule rfl rfl rfl (fun h4 => ?_) (fun h4 => ?_)
      · skip
        exact absurd h3 h4
      · skip
        refine gm_p k_Md_isModule rfl rfl ?_
        cases hp
        exact gm_ret (v := some (.int _)) k_Md_isModule rfl rfl (Or.inl rfl) rfl ⟨rfl, rfl⟩
    · skip
      rw [if_neg (show ¬ (v1 = 0) from h3)] at hp
      refine gm_p k_Md_isModule rfl rfl ?_
      refine gm_g k_Md_isModule rfl rfl rfl rfl ?_
      refine gm_p k_Md_isModule rfl rfl ?_
      refine gm_g k_Md_isModule rfl rfl rfl rfl ?_
      refine gm_ic k_Md_isModule rfl rfl rfl (fun h5 => ?_) (fun h5 => ?_)
      · skip
        rw [if_pos (show (σ.1 3) ≤ (σ.1 27) from h5)] at hp
        refine gm_p k_Md_isModule rfl rfl ?_
        refine gm_p k_Md_isModule rfl rfl ?_
        refine gm_pt k_Md_isModule rfl rfl rfl trivial (by decide) rfl ?_
        refine gm_p k_Md_isModule rfl rfl ?_
        refine gm_p k_Md_isModule rfl rfl ?_
        refine gm_g k_Md_isModule rfl rfl rfl rfl ?_
        refine gm_pt k_Md_isModule rfl rfl rfl trivial (by decide) rfl ?_
        refine gm_p k_Md_isModule rfl rfl ?_
        refine gm_if k_Md_isModule rfl rfl rfl (fun h6 => ?_) (fun h6 => ?_)
        · skip
          refine gm_p k_Md_isModule rfl rfl ?_
          refine gm_p (L' := [some (.ref a), some (.int v1), some (.int 2)]) (st' := []) k_Md_isModule rfl rfl ?_
          exact c_sp_Md_isModule_99   _ _ _ _ hp
        · skip
          exact absurd h6 h3
      · skip
        rw [if_neg (show ¬ ((σ.1 3) ≤ (σ.1 27)) from h5)] at hp
        refine gm_p k_Md_isModule rfl rfl ?_
        cases hy10 : sp_Md_readProgram   σ with
        | none =>
          rw [hy10] at hp
          cases hp
        | some y10 =>
          rw [hy10] at hp
          dsimp only at hp
          refine gm_ivB (M' := m_Md_readProgram) (As := []) k_Md_isModule rfl rfl rfl rfl rfl rfl (Nat.le_of_ble_eq_true rfl) (c_sp_Md_readProgram  hy10) (fun hby10 => ?_)
          refine gm_p (L' := [some (.ref a), some (.int y10.1), x2]) (st' := []) k_Md_isModule rfl rfl ?_
          refine gm_j k_Md_isModule rfl rfl ?_
          exact ihm _ _ hp _
def sp_Md_isModule_32   : Nat → Int32 → gm_S → Option (Int32 × gm_S)
  | 0, _, _ => none
  | m + 1, v1, σ => (if (5 : Int32) ≤ v1 then (match sp_Md_readProgram   σ with
  | none => none
  | some y2 => sp_Md_isModule_55   2601 y2.1 y2.2) else (if gi v1 5 = true then sp_Md_isModule_32   m (v1 + 1) (σ.1, (gm_up σ.2 30 (upd (σ.2 30) v1.toNatClampNeg (-1)))) else none))
theorem c_sp_Md_isModule_32  {r : Int32 × gm_S} : ∀ (m : Nat) (v1 : Int32) (σ : gm_S), sp_Md_isModule_32   m v1 σ = some r → ∀ x2 : Option Value, gm_Go l F (d + 142) m_Md_isModule a A 32 ([some (.ref a), some (.int v1), x2]) [] σ (fun w σ' => w = some (.int r.1) ∧ σ' = r.2) := by
  intro m
  induction m with
  | zero => intro v1 σ hp; cases hp
  | succ m ihm =>
    intro v1 σ hp x2
    unfold sp_Md_isModule_32 at hp
    refine gm_p k_Md_isModule rfl rfl ?_
    refine gm_p k_Md_isModule rfl rfl ?_
    refine gm_ic k_Md_isModule rfl rfl rfl (fun h1 => ?_) (fun h1 => ?_)
    · skip
      rw [if_pos (show (5 : Int32) ≤ v1 from h1)] at hp
      refine gm_p k_Md_isModule rfl rfl ?_
      cases hy2 : sp_Md_readProgram   σ with
      | none =>
        rw [hy2] at hp
        cases hp
      | some y2 =>
        rw [hy2] at hp
        dsimp only at hp
        refine gm_ivB (M' := m_Md_readProgram) (As := []) k_Md_isModule rfl rfl rfl rfl rfl rfl (Nat.le_of_ble_eq_true rfl) (c_sp_Md_readProgram  hy2) (fun hby2 => ?_)
        refine gm_p (L' := [some (.ref a), some (.int y2.1), x2]) (st' := []) k_Md_isModule rfl rfl ?_
        exact c_sp_Md_isModule_55   _ _ _ hp _
    · skip
      rw [if_neg (show ¬ ((5 : Int32) ≤ v1) from h1)] at hp
      refine gm_p k_Md_isModule rfl rfl ?_
      refine gm_g k_Md_isModule rfl rfl rfl rfl ?_
      refine gm_p k_Md_isModule rfl rfl ?_
      refine gm_p k_Md_isModule rfl rfl ?_
      by_cases g11 : gi v1 5 = true
      · rw [if_pos g11] at hp
        refine gm_sto k_Md_isModule rfl rfl (gi_in g11) (by decide) ?_
        refine gm_p (L' := [some (.ref a), some (.int (v1 + 1)), x2]) (st' := []) k_Md_isModule rfl rfl ?_
        refine gm_j k_Md_isModule rfl rfl ?_
        exact ihm _ _ hp _
      · rw [if_neg g11] at hp
        cases hp
def sp_Md_isModule   (σ : gm_S) : Option (Int32 × gm_S) := sp_Md_isModule_32   2601 0 ((upd (upd (upd (upd (upd (upd σ.1 27 0) 28 0) 29 0) 32 0) 10 0) 19 0), σ.2)
theorem c_sp_Md_isModule   {σ : gm_S} {r : Int32 × gm_S} (hp : sp_Md_isModule   σ = some r) : gm_Has l F (d + 142) m_Md_isModule a A [] σ (fun w σ' => w = some (.int r.1) ∧ σ' = r.2) := by
  refine gm_meth (k := 2) (L := [some (.ref a), none, none]) pn_Md rfl (Nat.le_of_ble_eq_true rfl) ?_
  unfold sp_Md_isModule at hp
  refine gm_p k_Md_isModule rfl rfl ?_
  refine gm_p k_Md_isModule rfl rfl ?_
  refine gm_pt k_Md_isModule rfl rfl rfl trivial (by decide) rfl ?_
  refine gm_p k_Md_isModule rfl rfl ?_
  refine gm_p k_Md_isModule rfl rfl ?_
  refine gm_pt k_Md_isModule rfl rfl rfl trivial (by decide) rfl ?_
  refine gm_p k_Md_isModule rfl rfl ?_
  refine gm_p k_Md_isModule rfl rfl ?_
  refine gm_pt k_Md_isModule rfl rfl rfl trivial (by decide) rfl ?_
  refine gm_p k_Md_isModule rfl rfl ?_
  refine gm_p k_Md_isModule rfl rfl ?_
  refine gm_pt k_Md_isModule rfl rfl rfl trivial (by decide) rfl ?_
  refine gm_p k_Md_isModule rfl rfl ?_
  refine gm_p k_Md_isModule rfl rfl ?_
  refine gm_pt k_Md_isModule rfl rfl rfl trivial (by decide) rfl ?_
  refine gm_p k_Md_isModule rfl rfl ?_
  refine gm_p k_Md_isModule rfl rfl ?_
  refine gm_pt k_Md_isModule rfl rfl rfl trivial (by decide) rfl ?_
  refine gm_p k_Md_isModule rfl rfl ?_
  refine gm_p (L' := [some (.ref a), some (.int 0), none]) (st' := []) k_Md_isModule rfl rfl ?_
  exact c_sp_Md_isModule_32   _ _ _ hp _
def sp_Md_module_156   : Nat → Int32 → Int32 → gm_S → Option (Int32 × gm_S)
  | 0, _, _, _ => none
  | m + 1, v1, v2, σ => (if (σ.1 3) ≤ v2 then (if (σ.1 7) = 0 then some (0, σ) else (match sp_Md_isModule   σ with
  | none => none
  | some y9 => some (0, ((upd y9.2.1 7 y9.1), y9.2.2)))) else (if gi v2 500 = true then sp_Md_module_156   m v1 (v2 + 1) (σ.1, (gm_up σ.2 4 (upd (σ.2 4) v2.toNatClampNeg ((σ.2 6) v2.toNatClampNeg)))) else none))
theorem c_sp_Md_module_156  {r : Int32 × gm_S} : ∀ (m : Nat) (v1 : Int32) (v2 : Int32) (σ : gm_S), sp_Md_module_156   m v1 v2 σ = some r → gm_Go l F (d + 143) m_Md_module a A 156 ([some (.ref a), some (.int v1), some (.int v2)]) [] σ (fun w σ' => w = some (.int r.1) ∧ σ' = r.2) := by
  intro m
  induction m with
  | zero => intro v1 v2 σ hp; cases hp
  | succ m ihm =>
    intro v1 v2 σ hp
    unfold sp_Md_module_156 at hp
    refine gm_p k_Md_module rfl rfl ?_
    refine gm_p k_Md_module rfl rfl ?_
    refine gm_g k_Md_module rfl rfl rfl rfl ?_
    refine gm_ic k_Md_module rfl rfl rfl (fun h7 => ?_) (fun h7 => ?_)
    · skip
      rw [if_pos (show (σ.1 3) ≤ v2 from h7)] at hp
      refine gm_p k_Md_module rfl rfl ?_
      refine gm_g k_Md_module rfl rfl rfl rfl ?_
      refine gm_if k_Md_module rfl rfl rfl (fun h8 => ?_) (fun h8 => ?_)
      · skip
        rw [if_pos (show (σ.1 7) = 0 from h8)] at hp
        refine gm_p k_Md_module rfl rfl ?_
        cases hp
        exact gm_ret (v := some (.int _)) k_Md_module rfl rfl trivial rfl ⟨rfl, rfl⟩
      · skip
        rw [if_neg (show ¬ ((σ.1 7) = 0) from h8)] at hp
        refine gm_p k_Md_module rfl rfl ?_
        refine gm_p k_Md_module rfl rfl ?_
        cases hy9 : sp_Md_isModule   σ with
        | none =>
          rw [hy9] at hp
          cases hp
        | some y9 =>
          rw [hy9] at hp
          dsimp only at hp
          refine gm_ivB (M' := m_Md_isModule) (As := []) k_Md_module rfl rfl rfl rfl rfl rfl (Nat.le_of_ble_eq_true rfl) (c_sp_Md_isModule  hy9) (fun hby9 => ?_)
          refine gm_pt k_Md_module rfl rfl rfl hby9 (by decide) rfl ?_
          refine gm_p k_Md_module rfl rfl ?_
          cases hp
          exact gm_ret (v := some (.int _)) k_Md_module rfl rfl trivial rfl ⟨rfl, rfl⟩
    · skip
      rw [if_neg (show ¬ ((σ.1 3) ≤ v2) from h7)] at hp
      refine gm_p k_Md_module rfl rfl ?_
      refine gm_g k_Md_module rfl rfl rfl rfl ?_
      refine gm_p k_Md_module rfl rfl ?_
      refine gm_p k_Md_module rfl rfl ?_
      refine gm_g k_Md_module rfl rfl rfl rfl ?_
      refine gm_p k_Md_module rfl rfl ?_
      by_cases g10 : gi v2 500 = true
      · rw [if_pos g10] at hp
        refine gm_ld k_Md_module rfl rfl (gi_in g10) (by decide) ?_
        refine gm_sto k_Md_module rfl rfl (gi_in g10) (by decide) ?_
        refine gm_p (L' := [some (.ref a), some (.int v1), some (.int (v2 + 1))]) (st' := []) k_Md_module rfl rfl ?_
        refine gm_j k_Md_module rfl rfl ?_
        exact ihm _ _ _ hp
      · rw [if_neg g10] at hp
        cases hp
def sp_Md_module_110   : Nat → Int32 → Int32 → gm_S → Option (Int32 × gm_S)
  | 0, _, _, _ => none
  | m + 1, v1, v2, σ => (if (σ.1 3) ≤ v2 then some ((σ.1 10), ((upd σ.1 44 0), σ.2)) else (if gi v2 500 = true then sp_Md_module_110   m v1 (v2 + 1) (σ.1, (gm_up σ.2 6 (upd (σ.2 6) v2.toNatClampNeg ((σ.2 4) v2.toNatClampNeg)))) else none))
theorem c_sp_Md_module_110  {r : Int32 × gm_S} : ∀ (m : Nat) (v1 : Int32) (v2 : Int32) (σ : gm_S), sp_Md_module_110   m v1 v2 σ = some r → gm_Go l F (d + 143) m_Md_module a A 110 ([some (.ref a), some (.int v1), some (.int v2)]) [] σ (fun w σ' => w = some (.int r.1) ∧ σ' = r.2) := by
  intro m
  induction m with
  | zero => intro v1 v2 σ hp; cases hp
  | succ m ihm =>
    intro v1 v2 σ hp
    unfold sp_Md_module_110 at hp
    refine gm_p k_Md_module rfl rfl ?_
    refine gm_p k_Md_module rfl rfl ?_
    refine gm_g k_Md_module rfl rfl rfl rfl ?_
    refine gm_ic k_Md_module rfl rfl rfl (fun h14 => ?_) (fun h14 => ?_)
    · skip
      rw [if_pos (show (σ.1 3) ≤ v2 from h14)] at hp
      refine gm_p k_Md_module rfl rfl ?_
      refine gm_p k_Md_module rfl rfl ?_
      refine gm_pt k_Md_module rfl rfl rfl trivial (by decide) rfl ?_
      refine gm_p k_Md_module rfl rfl ?_
      refine gm_g k_Md_module rfl rfl rfl rfl ?_
      cases hp
      exact gm_ret (v := some (.int _)) k_Md_module rfl rfl trivial rfl ⟨rfl, rfl⟩
    · skip
      rw [if_neg (show ¬ ((σ.1 3) ≤ v2) from h14)] at hp
      refine gm_p k_Md_module rfl rfl ?_
      refine gm_g k_Md_module rfl rfl rfl rfl ?_
      refine gm_p k_Md_module rfl rfl ?_
      refine gm_p k_Md_module rfl rfl ?_
      refine gm_g k_Md_module rfl rfl rfl rfl ?_
      refine gm_p k_Md_module rfl rfl ?_
      by_cases g15 : gi v2 500 = true
      · rw [if_pos g15] at hp
        refine gm_ld k_Md_module rfl rfl (gi_in g15) (by decide) ?_
        refine gm_sto k_Md_module rfl rfl (gi_in g15) (by decide) ?_
        refine gm_p (L' := [some (.ref a), some (.int v1), some (.int (v2 + 1))]) (st' := []) k_Md_module rfl rfl ?_
        refine gm_j k_Md_module rfl rfl ?_
        exact ihm _ _ _ hp
      · rw [if_neg g15] at hp
        cases hp
def sp_Md_module_10   : Nat → Int32 → gm_S → Option (Int32 × gm_S)
  | 0, _, _ => none
  | m + 1, v1, σ => (if (σ.1 3) ≤ v1 then (match sp_Md_isModule   ((upd σ.1 1 0), σ.2) with
  | none => none
  | some y2 => (if y2.1 = 0 then sp_Md_module_156   2601 y2.1 0 ((upd (upd (upd (upd y2.2.1 8 (y2.2.1 36)) 9 (y2.2.1 37)) 0 1) 3 (y2.2.1 5)), y2.2.2) else sp_Md_module_110   2601 y2.1 0 ((upd (upd (upd (upd (upd y2.2.1 8 0) 9 0) 0 0) 7 1) 5 (y2.2.1 3)), y2.2.2))) else (if gi v1 500 = true then sp_Md_module_10   m (v1 + 1) (σ.1, (gm_up σ.2 4 (upd (σ.2 4) v1.toNatClampNeg ((σ.2 2) v1.toNatClampNeg)))) else none))
theorem c_sp_Md_module_10  {r : Int32 × gm_S} : ∀ (m : Nat) (v1 : Int32) (σ : gm_S), sp_Md_module_10   m v1 σ = some r → ∀ x2 : Option Value, gm_Go l F (d + 143) m_Md_module a A 10 ([some (.ref a), some (.int v1), x2]) [] σ (fun w σ' => w = some (.int r.1) ∧ σ' = r.2) := by
  intro m
  induction m with
  | zero => intro v1 σ hp; cases hp
  | succ m ihm =>
    intro v1 σ hp x2
    unfold sp_Md_module_10 at hp
    refine gm_p k_Md_module rfl rfl ?_
    refine gm_p k_Md_module rfl rfl ?_
    refine gm_g k_Md_module rfl rfl rfl rfl ?_
    refine gm_ic k_Md_module rfl rfl rfl (fun h1 => ?_) (fun h1 => ?_)
    · skip
      rw [if_pos (show (σ.1 3) ≤ v1 from h1)] at hp
      refine gm_p k_Md_module rfl rfl ?_
      refine gm_p k_Md_module rfl rfl ?_
      refine gm_pt k_Md_module rfl rfl rfl trivial (by decide) rfl ?_
      refine gm_p k_Md_module rfl rfl ?_
      cases hy2 : sp_Md_isModule   ((upd σ.1 1 0), σ.2) with
      | none =>
        rw [hy2] at hp
        cases hp
      | some y2 =>
        rw [hy2] at hp
        dsimp only at hp
        refine gm_ivB (M' := m_Md_isModule) (As := []) k_Md_module rfl rfl rfl rfl rfl rfl (Nat.le_of_ble_eq_true rfl) (c_sp_Md_isModule  hy2) (fun hby2 => ?_)
        refine gm_p (L' := [some (.ref a), some (.int y2.1), x2]) (st' := []) k_Md_module rfl rfl ?_
        refine gm_p k_Md_module rfl rfl ?_
        refine gm_p k_Md_module rfl rfl ?_
        refine gm_if k_Md_module rfl rfl rfl (fun h3 => ?_) (fun h3 => ?_)
        · skip
          rw [if_pos (show y2.1 = 0 from h3)] at hp
          refine gm_p k_Md_module rfl rfl ?_
          refine gm_g k_Md_module rfl rfl rfl rfl ?_
          refine gm_pt k_Md_module rfl rfl rfl trivial (by decide) rfl ?_
          refine gm_p k_Md_module rfl rfl ?_
          refine gm_p k_Md_module rfl rfl ?_
          refine gm_if k_Md_module rfl rfl rfl (fun h4 => ?_) (fun h4 => ?_)
          · skip
            refine gm_p k_Md_module rfl rfl ?_
            refine gm_g k_Md_module rfl rfl rfl rfl ?_
            refine gm_pt k_Md_module rfl rfl rfl trivial (by decide) rfl ?_
            refine gm_p k_Md_module rfl rfl ?_
            refine gm_p k_Md_module rfl rfl ?_
            refine gm_if k_Md_module rfl rfl rfl (fun h5 => ?_) (fun h5 => ?_)
            · skip
              refine gm_p k_Md_module rfl rfl ?_
              refine gm_pt k_Md_module rfl rfl rfl trivial (by decide) rfl ?_
              refine gm_p k_Md_module rfl rfl ?_
              refine gm_if k_Md_module rfl rfl rfl (fun h6 => ?_) (fun h6 => ?_)
              · skip
                refine gm_p k_Md_module rfl rfl ?_
                refine gm_p k_Md_module rfl rfl ?_
                refine gm_g k_Md_module rfl rfl rfl rfl ?_
                refine gm_pt k_Md_module rfl rfl rfl trivial (by decide) rfl ?_
                refine gm_p k_Md_module rfl rfl ?_
                refine gm_p (L' := [some (.ref a), some (.int y2.1), some (.int 0)]) (st' := []) k_Md_module rfl rfl ?_
                exact c_sp_Md_module_156   _ _ _ _ hp
              · skip
                exact absurd h3 h6
            · skip
              exact absurd h3 h5
          · skip
            exact absurd h3 h4
        · skip
          rw [if_neg (show ¬ (y2.1 = 0) from h3)] at hp
          refine gm_p k_Md_module rfl rfl ?_
          refine gm_j k_Md_module rfl rfl ?_
          refine gm_pt k_Md_module rfl rfl rfl trivial (by decide) rfl ?_
          refine gm_p k_Md_module rfl rfl ?_
          refine gm_p k_Md_module rfl rfl ?_
          refine gm_if k_Md_module rfl rfl rfl (fun h11 => ?_) (fun h11 => ?_)
          · skip
            exact absurd h11 h3
          · skip
            refine gm_p k_Md_module rfl rfl ?_
            refine gm_j k_Md_module rfl rfl ?_
            refine gm_pt k_Md_module rfl rfl rfl trivial (by decide) rfl ?_
            refine gm_p k_Md_module rfl rfl ?_
            refine gm_p k_Md_module rfl rfl ?_
            refine gm_if k_Md_module rfl rfl rfl (fun h12 => ?_) (fun h12 => ?_)
            · skip
              exact absurd h12 h3
            · skip
              refine gm_p k_Md_module rfl rfl ?_
              refine gm_j k_Md_module rfl rfl ?_
              refine gm_pt k_Md_module rfl rfl rfl trivial (by decide) rfl ?_
              refine gm_p k_Md_module rfl rfl ?_
              refine gm_if k_Md_module rfl rfl rfl (fun h13 => ?_) (fun h13 => ?_)
              · skip
                exact absurd h13 h3
              · skip
                refine gm_p k_Md_module rfl rfl ?_
                refine gm_p k_Md_module rfl rfl ?_
                refine gm_pt k_Md_module rfl rfl rfl (Or.inr rfl) (by decide) rfl ?_
                refine gm_p k_Md_module rfl rfl ?_
                refine gm_p k_Md_module rfl rfl ?_
                refine gm_g k_Md_module rfl rfl rfl rfl ?_
                refine gm_pt k_Md_module rfl rfl rfl trivial (by decide) rfl ?_
                refine gm_p k_Md_module rfl rfl ?_
                refine gm_p (L' := [some (.ref a), some (.int y2.1), some (.int 0)]) (st' := []) k_Md_module rfl rfl ?_
                exact c_sp_Md_module_110   _ _ _ _ hp
    · skip
      rw [if_neg (show ¬ ((σ.1 3) ≤ v1) from h1)] at hp
      refine gm_p k_Md_module rfl rfl ?_
      refine gm_g k_Md_module rfl rfl rfl rfl ?_
      refine gm_p k_Md_module rfl rfl ?_
      refine gm_p k_Md_module rfl rfl ?_
      refine gm_g k_Md_module rfl rfl rfl rfl ?_
      refine gm_p k_Md_module rfl rfl ?_
      by_cases g16 : gi v1 500 = true
      · rw [if_pos g16] at hp
        refine gm_ld k_Md_module rfl rfl (gi_in g16) (by decide) ?_
        refine gm_sto k_Md_module rfl rfl (gi_in g16) (by decide) ?_
        refine gm_p (L' := [some (.ref a), some (.int (v1 + 1)), x2]) (st' := []) k_Md_module rfl rfl ?_
        refine gm_j k_Md_module rfl rfl ?_
        exact ihm _ _ hp _
      · rw [if_neg g16] at hp
        cases hp
def sp_Md_module   (σ : gm_S) : Option (Int32 × gm_S) := sp_Md_module_10   2601 0 ((upd σ.1 3 (σ.1 1)), σ.2)
theorem c_sp_Md_module   {σ : gm_S} {r : Int32 × gm_S} (hp : sp_Md_module   σ = some r) : gm_Has l F (d + 143) m_Md_module a A [] σ (fun w σ' => w = some (.int r.1) ∧ σ' = r.2) := by
  refine gm_meth (k := 2) (L := [some (.ref a), none, none]) pn_Md rfl (Nat.le_of_ble_eq_true rfl) ?_
  unfold sp_Md_module at hp
  refine gm_p k_Md_module rfl rfl ?_
  refine gm_p k_Md_module rfl rfl ?_
  refine gm_g k_Md_module rfl rfl rfl rfl ?_
  refine gm_pt k_Md_module rfl rfl rfl trivial (by decide) rfl ?_
  refine gm_p k_Md_module rfl rfl ?_
  refine gm_p (L' := [some (.ref a), some (.int 0), none]) (st' := []) k_Md_module rfl rfl ?_
  exact c_sp_Md_module_10   _ _ _ hp _
end PR1
