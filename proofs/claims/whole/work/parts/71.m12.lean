section W8
variable {T : mw_A} {S : Int32} {E : ck_E} {β : Nat → Int32} {f : mw_F} {g G : tw_G} {Γ : Nat → Bool} {th mi : Int32} {K : Nat → Int32}
def zext (Γ : Nat → Bool) (j : Nat) : Nat → Bool := fun i => if i = j then true else Γ i
theorem kn_0 {j : Nat} (hK : Kn β Γ K th mi) (hΓ : Γ j = false) : Kn β (zext Γ j) (upd K j 0) th mi := by
  intro i hi
  by_cases h : i = j
  · subst h
    obtain ⟨h1, h2⟩ := (hK i hi).2 hΓ
    refine ⟨fun _ => ⟨Or.inl upd_eq, ?_, ?_⟩, fun h => ?_⟩
    · rw [upd_eq, h1]; decide
    · rw [upd_eq, h2]; decide
    · unfold zext at h; rw [if_pos rfl] at h; cases h
  · rw [upd_ne h]
    unfold zext
    rw [if_neg h]
    exact hK i hi
theorem kn_1 {j : Nat} (hO : bO β) (hj : j < 26) (hb : β j ≠ 0) (hK : Kn β Γ K th mi) (hΓ : Γ j = false) : Kn β (zext Γ j) (upd K j 1) (th ||| β j) mi := by
  intro i hi
  by_cases h : i = j
  · subst h
    obtain ⟨h1, h2⟩ := (hK i hi).2 hΓ
    refine ⟨fun _ => ⟨Or.inr (Or.inl upd_eq), ?_, ?_⟩, fun h => ?_⟩
    · rw [upd_eq, nz_or, nz_b hO hi hi hb]; simp
    · rw [upd_eq, h2]; decide
    · unfold zext at h; rw [if_pos rfl] at h; cases h
  · rw [upd_ne h, nz_or, nz_b hO hj hi hb]
    unfold zext
    rw [if_neg h]
    simp only [h, decide_false, Bool.or_false]
    exact hK i hi
theorem kn_2 {j : Nat} (hO : bO β) (hj : j < 26) (hb : β j ≠ 0) (hK : Kn β Γ K th mi) (hΓ : Γ j = false) : Kn β (zext Γ j) (upd K j 2) th (mi ||| β j) := by
  intro i hi
  by_cases h : i = j
  · subst h
    obtain ⟨h1, h2⟩ := (hK i hi).2 hΓ
    refine ⟨fun _ => ⟨Or.inr (Or.inr upd_eq), ?_, ?_⟩, fun h => ?_⟩
    · rw [upd_eq, h1]; decide
    · rw [upd_eq, nz_or, nz_b hO hi hi hb]; simp
    · unfold zext at h; rw [if_pos rfl] at h; cases h
  · rw [upd_ne h, nz_or, nz_b hO hj hi hb]
    unfold zext
    rw [if_neg h]
    simp only [h, decide_false, Bool.or_false]
    exact hK i hi
theorem loc_cl {a j : Nat} {x2 : Nat} {b s : Int32} (e0 : egI E a 2 0 = some 8) (e1 : egI E a 2 1 = some (β j)) (e2 : egR E a 2 2 = some (some x2)) (hO : bO β) (hj : j < 26) (ht : nz β th j = false) (hi : nz β mi j = false) {r : Int32} {D1 D2 : Nat → Bool} (h1 : TW E β S th mi g (some x2) b s r D1 D2) :
    (D1 j = false → D2 j = true → TW E β S th mi (sp_Tk_weigh g) (some a) b s r (fun i => D1 i && !decide (i = j)) (fun i => D2 i && !decide (i = j))) ∧
    (D1 j = true → ∀ r' A1 A2, TW E β S (th ||| β j) mi g (some x2) b s r' A1 A2 → TW E β S th mi (sp_Tk_weigh g) (some a) b s r' (fun i => A1 i && !decide (i = j)) (fun i => A2 i && !decide (i = j))) ∧
    (D1 j = false → D2 j = false → ∀ r' A1 A2, TW E β S th (mi ||| β j) g (some x2) b s r' A1 A2 → TW E β S th mi (sp_Tk_weigh g) (some a) b s r' (fun i => A1 i && !decide (i = j)) (fun i => A2 i && !decide (i = j))) := by
  have ht0 : th &&& β j = 0 := nz_eq0.mpr ht
  have hi0 : mi &&& β j = 0 := nz_eq0.mpr hi
  have hcl : ∀ (σ : ck_S), σ.2.2.2.1 = E → sp_Tk_weigh g (some a) b s σ = sp_Tk_weighLocal g (some a) b s σ := by
    intro σ hE
    unfold sp_Tk_weigh
    simp only [hE, e0]
    simp
    cases sp_Tk_weighLocal g (some a) b s σ <;> rfl
  have first : ∀ σ : ck_S, σ.2.2.2.1 = E → σ.1 2 = S → σ.1 3 = th → σ.1 4 = mi → ∃ m c, sp_Tk_weighAlone g (some x2) b s σ = some (r, (upd (upd σ.1 5 m) 6 c, σ.2)) ∧ (∀ i, i < 26 → nz β m i = D1 i) ∧ (∀ i, i < 26 → nz β c i = D2 i) := by
    intro σ hE hS h3 h4
    obtain ⟨m, c, r1, r2, r3⟩ := h1 (upd (upd σ.1 5 0) 6 0, σ.2) hE hS h3 h4
    refine ⟨m, c, ?_, fun i hi => ?_, fun i hi => ?_⟩
    · unfold sp_Tk_weighAlone
      have : g (some x2) b s (upd (upd σ.1 5 0) 6 0, σ.2.1, σ.2.2.1, σ.2.2.2.1, σ.2.2.2.2.1, σ.2.2.2.2.2) = some (r, (upd (upd σ.1 5 m) 6 c, σ.2)) := by
        rw [up56] at r1
        exact r1
      rw [this]
    · rw [r2 i hi]
      show (nz β 0 i || _) = _
      rw [nz_0, Bool.false_or]
    · rw [r3 i hi]
      show (nz β 0 i || _) = _
      rw [nz_0, Bool.false_or]
  have second : ∀ (σ : ck_S) (th' mi' r' : Int32) (A1 A2 : Nat → Bool), TW E β S th' mi' g (some x2) b s r' A1 A2 → σ.2.2.2.1 = E → σ.1 2 = S → σ.1 3 = th' → σ.1 4 = mi' → ∃ m c, sp_Tk_weighAlone g (some x2) b s σ = some (r', (upd (upd σ.1 5 m) 6 c, σ.2)) ∧ (∀ i, i < 26 → nz β m i = A1 i) ∧ (∀ i, i < 26 → nz β c i = A2 i) := by
    intro σ th' mi' r' A1 A2 hA hE hS h3 h4
    obtain ⟨m, c, r1, r2, r3⟩ := hA (upd (upd σ.1 5 0) 6 0, σ.2) hE hS h3 h4
    refine ⟨m, c, ?_, fun i hi => ?_, fun i hi => ?_⟩
    · unfold sp_Tk_weighAlone
      have : g (some x2) b s (upd (upd σ.1 5 0) 6 0, σ.2.1, σ.2.2.1, σ.2.2.2.1, σ.2.2.2.2.1, σ.2.2.2.2.2) = some (r', (upd (upd σ.1 5 m) 6 c, σ.2)) := by
        rw [up56] at r1
        exact r1
      rw [this]
    · rw [r2 i hi]
      show (nz β 0 i || _) = _
      rw [nz_0, Bool.false_or]
    · rw [r3 i hi]
      show (nz β 0 i || _) = _
      rw [nz_0, Bool.false_or]
  refine ⟨fun d1 d2 σ hE hS h3 h4 => ?_, fun d1 r' A1 A2 hT σ hE hS h3 h4 => ?_, fun d1 d2 r' A1 A2 hT σ hE hS h3 h4 => ?_⟩
  · obtain ⟨m, c, r1, r2, r3⟩ := first σ hE hS h3 h4
    have hm : m &&& β j = 0 := nz_eq0.mpr (by rw [r2 j hj, d1])
    have hc : ¬ (c &&& β j = 0) := fun h => by
      have := nz_eq0.mp h
      rw [r3 j hj, d2] at this
      cases this
    refine ⟨σ.1 5 ||| (m &&& (β j ^^^ (-1))), σ.1 6 ||| (c &&& (β j ^^^ (-1))), ?_, fun i hi => ?_, fun i hi => ?_⟩
    · rw [hcl σ hE]
      unfold sp_Tk_weighLocal
      simp only [hE, e2, r1, e1]
      have hln : sp_Tk_learns (β j) (upd (upd σ.1 5 m) 6 c, σ.2) = some (0, (upd (upd σ.1 5 m) 6 c, σ.2)) := by
        unfold sp_Tk_learns
        rw [if_pos (show upd (upd σ.1 5 m) 6 c 5 &&& β j = 0 from hm), if_neg (show ¬ (upd (upd σ.1 5 m) 6 c 6 &&& β j = 0) from hc)]
      rw [hln]
      simp only [hE, e1]
      rw [if_pos trivial]
      show some (r, (upd (upd (upd (upd σ.1 5 m) 6 c) 5 (σ.1 5 ||| (m &&& (β j ^^^ (-1))))) 6 (σ.1 6 ||| (c &&& (β j ^^^ (-1)))), _)) = _
      rw [up56, ← hE]
    · rw [nz_or, nz_wo hO hj hi, r2 i hi]
    · rw [nz_or, nz_wo hO hj hi, r3 i hi]
  · obtain ⟨m, c, r1, r2, r3⟩ := first σ hE hS h3 h4
    have hm : ¬ (m &&& β j = 0) := fun h => by
      have := nz_eq0.mp h
      rw [r2 j hj, d1] at this
      cases this
    obtain ⟨m', c', s1, s2, s3⟩ := second (upd (upd (upd σ.1 5 m) 6 c) 3 (th ||| β j), σ.2) _ _ _ _ _ hT hE hS rfl h4
    refine ⟨σ.1 5 ||| (m' &&& (β j ^^^ (-1))), σ.1 6 ||| (c' &&& (β j ^^^ (-1))), ?_, fun i hi => ?_, fun i hi => ?_⟩
    · rw [hcl σ hE]
      unfold sp_Tk_weighLocal
      simp only [hE, e2, r1, e1]
      have hln : sp_Tk_learns (β j) (upd (upd σ.1 5 m) 6 c, σ.2) = some (1, (upd (upd (upd σ.1 5 m) 6 c) 3 (th ||| β j), σ.2)) := by
        unfold sp_Tk_learns
        rw [if_neg (show ¬ (upd (upd σ.1 5 m) 6 c 5 &&& β j = 0) from hm), ← h3]
        rfl
      rw [hln]
      simp only [hE, e2]
      rw [if_neg (by decide), s1]
      simp only [hE, e1]
      unfold sp_Tk_forget
      simp only [hE, e1]
      have hfin : ∀ R : Nat → Int32, R = upd (upd (upd (upd (upd σ.1 5 m) 6 c) 3 (th ||| β j)) 5 m') 6 c' → (upd (upd (upd (upd R 3 (R 3 &&& (β j ^^^ (-1)))) 4 (R 4 &&& (β j ^^^ (-1)))) 5 (σ.1 5 ||| ((upd (upd R 3 (R 3 &&& (β j ^^^ (-1)))) 4 (R 4 &&& (β j ^^^ (-1)))) 5 &&& (β j ^^^ (-1))))) 6 (σ.1 6 ||| ((upd (upd R 3 (R 3 &&& (β j ^^^ (-1)))) 4 (R 4 &&& (β j ^^^ (-1)))) 6 &&& (β j ^^^ (-1))))) = upd (upd σ.1 5 (σ.1 5 ||| (m' &&& (β j ^^^ (-1))))) 6 (σ.1 6 ||| (c' &&& (β j ^^^ (-1)))) := by
        intro R hR
        have R3 : R 3 = th ||| β j := by rw [hR]; rfl
        have R4 : R 4 = mi := by rw [hR]; exact h4
        have R5 : R 5 = m' := by rw [hR]; rfl
        have R6 : R 6 = c' := by rw [hR]; rfl
        have w3 : R 3 &&& (β j ^^^ (-1)) = σ.1 3 := by rw [R3, or_wo ht0, h3]
        have zw4 : R 4 &&& (β j ^^^ (-1)) = σ.1 4 := by rw [R4, wo_of hi0, h4]
        rw [w3, zw4]
        have q5 : upd (upd R 3 (σ.1 3)) 4 (σ.1 4) 5 = m' := R5
        have q6 : upd (upd R 3 (σ.1 3)) 4 (σ.1 4) 6 = c' := R6
        rw [q5, q6]
        funext i
        unfold upd
        by_cases i6 : i = 6
        · simp [i6]
        · by_cases i5 : i = 5
          · simp [i5]
          · by_cases i4 : i = 4
            · simp [i4]
            · by_cases i3 : i = 3
              · simp [i3]
              · simp only [i6, i5, i4, i3, if_false]
                rw [hR]
                unfold upd
                simp only [i6, i5, i3, if_false]
      show some (r', (_, _)) = _
      rw [hfin _ rfl, ← hE]
    · rw [nz_or, nz_wo hO hj hi, s2 i hi]
    · rw [nz_or, nz_wo hO hj hi, s3 i hi]
  · obtain ⟨m, c, r1, r2, r3⟩ := first σ hE hS h3 h4
    have hm : m &&& β j = 0 := nz_eq0.mpr (by rw [r2 j hj, d1])
    have hc : c &&& β j = 0 := nz_eq0.mpr (by rw [r3 j hj, d2])
    obtain ⟨m', c', s1, s2, s3⟩ := second (upd (upd (upd σ.1 5 m) 6 c) 4 (mi ||| β j), σ.2) _ _ _ _ _ hT hE hS h3 rfl
    refine ⟨σ.1 5 ||| (m' &&& (β j ^^^ (-1))), σ.1 6 ||| (c' &&& (β j ^^^ (-1))), ?_, fun i hi => ?_, fun i hi => ?_⟩
    · rw [hcl σ hE]
      unfold sp_Tk_weighLocal
      simp only [hE, e2, r1, e1]
      have hln : sp_Tk_learns (β j) (upd (upd σ.1 5 m) 6 c, σ.2) = some (1, (upd (upd (upd σ.1 5 m) 6 c) 4 (mi ||| β j), σ.2)) := by
        unfold sp_Tk_learns
        rw [if_pos (show upd (upd σ.1 5 m) 6 c 5 &&& β j = 0 from hm), if_pos (show upd (upd σ.1 5 m) 6 c 6 &&& β j = 0 from hc), ← h4]
        rfl
      rw [hln]
      simp only [hE, e2]
      rw [if_neg (by decide), s1]
      simp only [hE, e1]
      unfold sp_Tk_forget
      simp only [hE, e1]
      have hfin : ∀ R : Nat → Int32, R = upd (upd (upd (upd (upd σ.1 5 m) 6 c) 4 (mi ||| β j)) 5 m') 6 c' → (upd (upd (upd (upd R 3 (R 3 &&& (β j ^^^ (-1)))) 4 (R 4 &&& (β j ^^^ (-1)))) 5 (σ.1 5 ||| ((upd (upd R 3 (R 3 &&& (β j ^^^ (-1)))) 4 (R 4 &&& (β j ^^^ (-1)))) 5 &&& (β j ^^^ (-1))))) 6 (σ.1 6 ||| ((upd (upd R 3 (R 3 &&& (β j ^^^ (-1)))) 4 (R 4 &&& (β j ^^^ (-1)))) 6 &&& (β j ^^^ (-1))))) = upd (upd σ.1 5 (σ.1 5 ||| (m' &&& (β j ^^^ (-1))))) 6 (σ.1 6 ||| (c' &&& (β j ^^^ (-1)))) := by
        intro R hR
        have R3 : R 3 = th := by rw [hR]; exact h3
        have R4 : R 4 = mi ||| β j := by rw [hR]; rfl
        have R5 : R 5 = m' := by rw [hR]; rfl
        have R6 : R 6 = c' := by rw [hR]; rfl
        have w3 : R 3 &&& (β j ^^^ (-1)) = σ.1 3 := by rw [R3, wo_of ht0, h3]
        have zw4 : R 4 &&& (β j ^^^ (-1)) = σ.1 4 := by rw [R4, or_wo hi0, h4]
        rw [w3, zw4]
        have q5 : upd (upd R 3 (σ.1 3)) 4 (σ.1 4) 5 = m' := R5
        have q6 : upd (upd R 3 (σ.1 3)) 4 (σ.1 4) 6 = c' := R6
        rw [q5, q6]
        funext i
        unfold upd
        by_cases i6 : i = 6
        · simp [i6]
        · by_cases i5 : i = 5
          · simp [i5]
          · by_cases i4 : i = 4
            · simp [i4]
            · by_cases i3 : i = 3
              · simp [i3]
              · simp only [i6, i5, i4, i3, if_false]
                rw [hR]
                unfold upd
                simp only [i6, i5, i4, if_false]
      show some (r', (_, _)) = _
      rw [hfin _ rfl, ← hE]
    · rw [nz_or, nz_wo hO hj hi, s2 i hi]
    · rw [nz_or, nz_wo hO hj hi, s3 i hi]
end W8
