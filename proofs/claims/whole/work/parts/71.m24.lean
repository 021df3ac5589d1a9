section K5
variable {σ : gm_S} {k ni no : Nat} {li lo : Nat → Nat} {β : Nat → Int32} {E : ck_E} {Γ : Nat → Bool} {P a : Nat}
theorem wk_go (hD : zPD σ.2 k ni no li lo) (hB : zPB β ni no li lo) (hO : bO β) (hΓ : ∀ j, j < 26 → (Γ j = true ↔ (∃ i, i < ni ∧ li i = j) ∨ (∃ i, i < no ∧ lo i = j))) (σc : ck_S) (hE : σc.2.2.2.1 = E) (e1 : egI E P 3 1 = some (Int32.ofNat ni)) (e2 : egI E P 3 2 = some (Int32.ofNat no)) (e3 : egR E P 3 3 = some (some a)) {n : Nat} {x : kd_R} (hn : n < 199) (hx1 : x.1 = (σ.2 16 k, a)) (hN : nR σ.2 E β n Γ 0 x)
    {st set : Int32} (hst : sOK (σ.2 25 (σ.2 16 k).toNatClampNeg) st) (hset : ∀ q, bt set q = true → q < ni) :
    ∃ how σ' ρ', sp_Md_work (Int32.ofNat k) st set σ = some (how, σ') ∧ sp_Tk_go (some P) st set σc = some (how, (ρ', σc.2)) ∧ (how = 0 ∨ how = 1 ∨ how = 2) ∧ (∀ j, (j < 39 ∨ 43 < j) → σ'.1 j = σ.1 j) ∧ (∀ j, j ≠ 38 → σ'.2 j = σ.2 j) ∧ (how = 0 → ρ' 0 = σ'.1 42 ∧ ρ' 1 = σ'.1 43 ∧ sOK (σ.2 25 (σ.2 16 k).toNatClampNeg) (σ'.1 42)) := by
  have hni : ni ≤ 26 := by have := hD.2.2.2.1; omega
  by_cases h3 : st = -3
  · subst h3
    refine ⟨0, (upd (upd σ.1 42 (-3)) 43 0, σ.2), upd (upd σc.1 0 (-3)) 1 0, rfl, ?_, Or.inl rfl, fun j hj => ?_, fun _ _ => rfl, fun _ => ⟨rfl, rfl, Or.inr (Or.inl rfl)⟩⟩
    · rfl
    · show upd (upd σ.1 42 (-3)) 43 0 j = _
      rw [upd_ne (by omega), upd_ne (by omega)]
  · have hib : ∀ (r : Nat → Int32) , sp_Prog_inputBits P (r, σc.2) = some ((1 : Int32) <<< (Int32.ofNat ni &&& 31) - 1, (r, σc.2)) := by
      intro r
      unfold sp_Prog_inputBits
      simp only [hE, e1]
    by_cases h2 : st = -2
    · subst h2
      obtain ⟨how, σ', ρ', a1, a2, a3, a4, a5, a6⟩ := wk_run (σ := (upd (upd (upd σ.1 42 (-2)) 43 0) 39 0, σ.2)) (R := σc.2) (P := P) hD hB hO hΓ hE e1 e2 e3 hn hx1 hN (res := 0) (b := 1) (Or.inl ⟨rfl, rfl⟩) (ρ := upd σc.1 2 0) rfl (v2 := -2) (v3 := set) rfl (th := set) (mi := ((1 : Int32) <<< (Int32.ofNat ni &&& 31) - 1) &&& (set ^^^ (-1))) (m := (upd σc.1 2 0) 5) (c := (upd σc.1 2 0) 6) hset rfl rfl
      refine ⟨how, σ', ρ', ?_, ?_, a3, fun j hj => ?_, a5, fun h => ?_⟩
      · unfold sp_Md_work
        rw [if_neg (by decide), if_pos rfl]
        exact a1
      · unfold sp_Tk_go
        rw [if_neg (by decide), if_pos rfl]
        simp only
        rw [hE, if_pos (eo_ofI e1)]
        have hib' : sp_Prog_inputBits P (upd (upd σc.1 2 0) 3 set, σc.2.1, σc.2.2.1, E, σc.2.2.2.2.1, σc.2.2.2.2.2) = some ((1 : Int32) <<< (Int32.ofNat ni &&& 31) - 1, (upd (upd σc.1 2 0) 3 set, σc.2)) := by
          rw [← hE]
          exact hib _
        rw [hib']
        simp only
        rw [← w4_of] at a2
        exact a2
      · rw [a4 j (by omega)]
        show upd (upd (upd σ.1 42 (-2)) 43 0) 39 0 j = _
        rw [upd_ne (by omega), upd_ne (by omega), upd_ne (by omega)]
      · obtain ⟨w1, w2, w3⟩ := a6 h
        exact ⟨w1, w2, Or.inr w3⟩
    · have hs : σ.2 25 (σ.2 16 k).toNatClampNeg &&& st ≠ 0 := by
        rcases hst with h | h | h
        · exact absurd h h2
        · exact absurd h h3
        · exact h.2.2
      obtain ⟨how, σ', ρ', a1, a2, a3, a4, a5, a6⟩ := wk_run (σ := (upd (upd (upd σ.1 42 st) 43 0) 39 st, σ.2)) (R := σc.2) (P := P) hD hB hO hΓ hE e1 e2 e3 hn hx1 hN (res := 1) (b := 0) (Or.inr ⟨rfl, rfl, hs⟩) (ρ := upd σc.1 2 st) rfl (v2 := st) (v3 := set) rfl (th := set) (mi := ((1 : Int32) <<< (Int32.ofNat ni &&& 31) - 1) &&& (set ^^^ (-1))) (m := (upd σc.1 2 st) 5) (c := (upd σc.1 2 st) 6) hset rfl rfl
      refine ⟨how, σ', ρ', ?_, ?_, a3, fun j hj => ?_, a5, fun h => ?_⟩
      · unfold sp_Md_work
        rw [if_neg h3, if_neg h2]
        exact a1
      · unfold sp_Tk_go
        rw [if_neg h3, if_neg h2]
        simp only
        rw [hE, if_pos (eo_ofI e1)]
        have hib' : sp_Prog_inputBits P (upd (upd σc.1 2 st) 3 set, σc.2.1, σc.2.2.1, E, σc.2.2.2.2.1, σc.2.2.2.2.2) = some ((1 : Int32) <<< (Int32.ofNat ni &&& 31) - 1, (upd (upd σc.1 2 st) 3 set, σc.2)) := by
          rw [← hE]
          exact hib _
        rw [hib']
        simp only
        rw [← w4_of] at a2
        exact a2
      · rw [a4 j (by omega)]
        show upd (upd (upd σ.1 42 st) 43 0) 39 st j = _
        rw [upd_ne (by omega), upd_ne (by omega), upd_ne (by omega)]
      · obtain ⟨w1, w2, w3⟩ := a6 h
        exact ⟨w1, w2, Or.inr w3⟩
end K5
