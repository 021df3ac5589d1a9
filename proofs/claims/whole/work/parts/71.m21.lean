def zw4 (r : Nat → Int32) (th mi m c : Int32) : Nat → Int32 := upd (upd (upd (upd r 3 th) 4 mi) 5 m) 6 c
theorem w4_56 {r : Nat → Int32} {th mi m c m' c' : Int32} : upd (upd (zw4 r th mi m c) 5 m') 6 c' = zw4 r th mi m' c' := up56
theorem w4_34 {r : Nat → Int32} {th mi m c th' mi' : Int32} : upd (upd (zw4 r th mi m c) 3 th') 4 mi' = zw4 r th' mi' m c := by
  funext j
  unfold zw4 upd
  by_cases h3 : j = 3
  · simp [h3]
  · by_cases h4 : j = 4
    · simp [h4]
    · by_cases h5 : j = 5
      · simp [h5]
      · by_cases h6 : j = 6
        · simp [h6]
        · simp [h3, h4, h5, h6]
def cu (K : Nat → Int32) (lo : Nat → Nat) (no : Nat) : Nat := ((List.range no).filter (fun i => decide (K (lo i) = 0))).length
theorem flt_le (p q : Nat → Bool) : ∀ l : List Nat, (∀ x ∈ l, q x = true → p x = true) → (l.filter q).length ≤ (l.filter p).length := by
  intro l
  induction l with
  | nil => intro _; simp
  | cons a l ih =>
    intro h
    have h1 := ih (fun x hx => h x (List.mem_cons_of_mem _ hx))
    by_cases hq : q a = true
    · have hp := h a (by simp) hq
      rw [List.filter_cons_of_pos hq, List.filter_cons_of_pos hp]
      simp
      exact h1
    · rw [List.filter_cons_of_neg hq]
      by_cases hp : p a = true
      · rw [List.filter_cons_of_pos hp]
        simp
        omega
      · rw [List.filter_cons_of_neg hp]
        exact h1
theorem flt_lt (p q : Nat → Bool) : ∀ l : List Nat, (∀ x ∈ l, q x = true → p x = true) → (∃ x ∈ l, p x = true ∧ q x = false) → (l.filter q).length < (l.filter p).length := by
  intro l
  induction l with
  | nil => intro _ ⟨x, hx, _⟩; cases hx
  | cons a l ih =>
    intro h hex
    have hle := flt_le p q l (fun x hx => h x (List.mem_cons_of_mem _ hx))
    by_cases hq : q a = true
    · have hp := h a (by simp) hq
      rw [List.filter_cons_of_pos hq, List.filter_cons_of_pos hp]
      obtain ⟨x, hx, h1, h2⟩ := hex
      rcases List.mem_cons.mp hx with e | e
      · rw [e, hq] at h2; cases h2
      · have := ih (fun x hx => h x (List.mem_cons_of_mem _ hx)) ⟨x, e, h1, h2⟩
        simp
        exact this
    · rw [List.filter_cons_of_neg hq]
      by_cases hp : p a = true
      · rw [List.filter_cons_of_pos hp]
        simp
        omega
      · rw [List.filter_cons_of_neg hp]
        obtain ⟨x, hx, h1, h2⟩ := hex
        rcases List.mem_cons.mp hx with e | e
        · rw [e] at h1; exact absurd h1 hp
        · exact ih (fun x hx => h x (List.mem_cons_of_mem _ hx)) ⟨x, e, h1, h2⟩
theorem cu_lt {K K' : Nat → Int32} {lo : Nat → Nat} {no : Nat} (h : ∀ i, i < no → K' (lo i) = 0 → K (lo i) = 0) (hex : ∃ i, i < no ∧ K (lo i) = 0 ∧ K' (lo i) ≠ 0) : cu K' lo no < cu K lo no := by
  obtain ⟨i, hi, h1, h2⟩ := hex
  refine flt_lt _ _ _ (fun x hx hq => ?_) ⟨i, List.mem_range.mpr hi, ?_, ?_⟩
  · exact decide_eq_true (h x (List.mem_range.mp hx) (of_decide_eq_true hq))
  · exact decide_eq_true h1
  · exact decide_eq_false h2
theorem cu_0 {K : Nat → Int32} {lo : Nat → Nat} {no : Nat} (h : cu K lo no = 0) : ∀ i, i < no → K (lo i) ≠ 0 := by
  intro i hi h0
  have : i ∈ (List.range no).filter (fun i => decide (K (lo i) = 0)) := List.mem_filter.mpr ⟨List.mem_range.mpr hi, decide_eq_true h0⟩
  rw [List.eq_nil_of_length_eq_zero h] at this
  cases this
section K2
variable {σ : gm_S} {k ni no : Nat} {li lo : Nat → Nat} {β : Nat → Int32} {E : ck_E} {Γ : Nat → Bool} {P a : Nat} {ρ : Nat → Int32} {R : (Nat → Nat → Int32) × (Nat → Option Nat) × ck_E × Nat × Nat}
theorem nz_out (hO : bO β) (hB : zPB β ni no li lo) (hlo : ∀ i, i < no → lo i < 26) (hn : ni + no ≤ 26) {x : Int32} {j : Nat} (hj : j < 26) (hne : ∀ i, i < no → lo i ≠ j) (hx : ∀ q, bt x q = true → ∃ i, i < no ∧ q = ni + i) : nz β x j = false := by
  apply Bool.eq_false_iff.mpr
  rw [Ne, nz_iff]
  rintro ⟨q, h1, h2⟩
  obtain ⟨i, hi, rfl⟩ := hx q h1
  have h3 := bt_az.mp (hO (lo i) j (hlo i hi) hj (hne i hi)) (ni + i) (by rw [hB.2 i hi, bt_p2 (by omega)]; simp)
  rw [h2] at h3
  cases h3
theorem sett (hD : zPD σ.2 k ni no li lo) (hB : zPB β ni no li lo) (hO : bO β) (hΓ : ∀ j, j < 26 → (Γ j = true ↔ (∃ i, i < ni ∧ li i = j) ∨ (∃ i, i < no ∧ lo i = j))) (hR : R.2.2.1 = E) (hb : egR E P 3 3 = some (some a))
    {res b : Int32} (hrb : res = 0 ∧ b = 1 ∨ res = 1 ∧ b = 0 ∧ σ.2 25 (σ.2 16 k).toNatClampNeg &&& σ.1 39 ≠ 0) (hρ : ρ 2 = σ.1 39) (hW : ∀ K, WS (stK σ K).2 (σ.1 39) E β (mw (stK σ K).2 (σ.1 39) 200) (tw 200) Γ (σ.2 16 k) a) {v2 v3 : Int32} :
    ∀ (r : Nat) (K : Nat → Int32) (th mi m c unk : Int32) (rnd mr mc : Nat), cu K lo no ≤ r → r + rnd ≤ 26 → r + 2 < mr → r < mc → Kn β Γ K th mi → (∀ i, i < no → bt unk (ni + i) = decide (K (lo i) = 0)) → (∀ q, bt unk q = true → ∃ i, i < no ∧ q = ni + i) →
    ∃ K' th' mi' m' c' fl, sp_Md_work_124 mr (Int32.ofNat k) v2 v3 res 1 (stK σ K) = sp_Md_work_272 2601 (Int32.ofNat k) v2 v3 res 0 0 (stK σ K') ∧ sp_Tk_settles_8 mc (some P) b unk (Int32.ofNat rnd) (zw4 ρ th mi m c, R) = some (fl, (zw4 ρ th' mi' m' c', R)) ∧ Kn β Γ K' th' mi' ∧ (fl = 1 ∧ (∀ i, i < no → K' (lo i) ≠ 0) ∨ fl = 0 ∧ ∃ i, i < no ∧ K' (lo i) = 0) ∧ (∀ i, i < ni → K' (li i) = K (li i)) := by
  have hD' := hD
  obtain ⟨hk, h12, h14, hn, hli, hlo⟩ := hD
  have hlo' : ∀ i, i < no → lo i < 26 := fun i hi => (hlo i hi).2
  intro r
  induction r with
  | zero =>
    intro K th mi m c unk rnd mr mc hcu hrnd hmr hmc hK hu1 hu2
    have h0 := cu_0 (Nat.le_zero.mp hcu)
    have hunk : unk = 0 := bt_z.mpr (fun q => by
      cases hq : bt unk q
      · rfl
      · obtain ⟨i, hi, rfl⟩ := hu2 q hq
        rw [hu1 i hi] at hq
        exact absurd (of_decide_eq_true hq) (h0 i hi))
    obtain ⟨mr, rfl⟩ : ∃ q, mr = q + 2 := ⟨mr - 2, by omega⟩
    obtain ⟨mc, rfl⟩ : ∃ q, mc = q + 1 := ⟨mc - 1, by omega⟩
    obtain ⟨⟨xm, xc, f1, f2, f3, f4⟩, _⟩ := hW K K th mi hK res b hrb
    obtain ⟨K', v5', g1, g2, g3, g4, g5⟩ := wk_164 (σ := σ) hD' hB (kk := sp_Md_work_124 (mr + 1)) (v2 := v2) (v3 := v3) (v4 := res) (xm := xm) (xc := xc) 2601 0 K 0 (Or.inl rfl) (by omega) (by omega)
    have hKK : K' = K := by
      funext j
      by_cases hj : ∃ i, i < no ∧ lo i = j
      · obtain ⟨i, hi, rfl⟩ := hj
        rw [g2 i (by omega) hi, if_neg (h0 i hi)]
      · exact g3 j (fun i _ hi e => hj ⟨i, hi, e⟩)
    have hv : v5' = 0 := g5.mpr ⟨rfl, fun i _ hi h => absurd h (h0 i hi)⟩
    refine ⟨K, th, mi, m, c, 1, ?_, ?_, hK, Or.inl ⟨rfl, h0⟩, fun _ _ => rfl⟩
    · conv => lhs; unfold sp_Md_work_124
      rw [if_neg (by decide), if_pos (gi_of (by omega : k < 7) (by decide)), cl_of (by omega), stK_n (by decide)]
      have e1 : sp_Md_must (σ.2 16 k) res (stK σ K) = some (xm, stK σ K) := by
        unfold sp_Md_must
        rw [stK_38]
        rw [show (stK σ K).1 39 = σ.1 39 from rfl, f1]
      have e2 : sp_Md_can (σ.2 16 k) res 1 (stK σ K) = some (xc, stK σ K) := by
        unfold sp_Md_can
        rw [stK_38]
        rw [show (stK σ K).1 39 = σ.1 39 from rfl, f2]
      rw [e1]
      simp only
      rw [stK_n (by decide), e2]
      simp only
      rw [show (0 : Int32) = Int32.ofNat 0 from rfl] at g1 ⊢
      rw [g1, hv, hKK]
      conv => lhs; unfold sp_Md_work_124
      rw [if_pos rfl]
      rfl
    · unfold sp_Tk_settles_8
      rw [hunk]
      by_cases h26 : (26 : Int32) ≤ Int32.ofNat rnd
      · rw [if_pos h26, if_pos rfl]
      · rw [if_neg h26, if_pos rfl]
  | succ r ih =>
    intro K th mi m c unk rnd mr mc hcu hrnd hmr hmc hK hu1 hu2
    by_cases hunk : unk = 0
    · -- nothing is open: as above
      have h0 : ∀ i, i < no → K (lo i) ≠ 0 := fun i hi e => by
        have := hu1 i hi
        rw [hunk, bt_0, e] at this
        simp at this
      have hc0 : cu K lo no ≤ r := by
        have : cu K lo no = 0 := by
          unfold cu
          rw [List.length_eq_zero_iff, List.filter_eq_nil_iff]
          intro i hi
          exact fun e => h0 i (List.mem_range.mp hi) (of_decide_eq_true e)
        omega
      exact ih K th mi m c unk rnd mr mc hc0 (by omega) (by omega) (by omega) hK hu1 hu2
    · obtain ⟨mr, rfl⟩ : ∃ q, mr = q + 2 := ⟨mr - 2, by omega⟩
      obtain ⟨mc, rfl⟩ : ∃ q, mc = q + 1 := ⟨mc - 1, by omega⟩
      obtain ⟨⟨xm, xc, f1, f2, f3, f4⟩, _⟩ := hW K K th mi hK res b hrb
      obtain ⟨K', v5', g1, g2, g3, g4, g5⟩ := wk_164 (σ := σ) hD' hB (kk := sp_Md_work_124 (mr + 1)) (v2 := v2) (v3 := v3) (v4 := res) (xm := xm) (xc := xc) 2601 0 K 0 (Or.inl rfl) (by omega) (by omega)
      obtain ⟨m1, c1, r1, r2, r3⟩ := f4 (upd (upd (zw4 ρ th mi m c) 5 0) 6 0, R) hR hρ rfl rfl
      have hm1 : ∀ j, j < 26 → nz β m1 j = sg xm j := fun j hj => by
        rw [r2 j hj]
        show (nz β 0 j || _) = _
        rw [nz_0, Bool.false_or]
      have hc1 : ∀ j, j < 26 → nz β c1 j = sg xc j := fun j hj => by
        rw [r3 j hj]
        show (nz β 0 j || _) = _
        rw [nz_0, Bool.false_or]
      rw [w4_56, w4_56] at r1
      have hnw : ∀ i, i < no → bt (unk &&& (m1 ||| (c1 ^^^ (-1)))) (ni + i) = (decide (K (lo i) = 0) && (sg xm (lo i) || !sg xc (lo i))) := by
        intro i hi
        rw [bt_and, bt_or, bt_not, hu1 i hi, ← nz_p2 (m := m1) (by omega) (hB.2 i hi), ← nz_p2 (m := c1) (by omega) (hB.2 i hi), hm1 _ (hlo' i hi), hc1 _ (hlo' i hi)]
        have : ni + i < 32 := by omega
        simp [this]
      have hnw2 : ∀ q, bt (unk &&& (m1 ||| (c1 ^^^ (-1)))) q = true → ∃ i, i < no ∧ q = ni + i := by
        intro q hq
        rw [bt_and, Bool.and_eq_true] at hq
        exact hu2 q hq.1
      have hlt26 : ¬ (26 : Int32) ≤ Int32.ofNat rnd := fun e => by
        have := (le_N (by decide) (by omega)).mp (show Int32.ofNat 26 ≤ Int32.ofNat rnd from e)
        omega
      have hcls : ∀ mcc, sp_Tk_settles_8 (mcc + 1) (some P) b unk (Int32.ofNat rnd) (zw4 ρ th mi m c, R) = (if (unk &&& (m1 ||| (c1 ^^^ (-1)))) = 0 then some (0, (zw4 ρ th mi m1 c1, R)) else sp_Tk_settles_8 mcc (some P) b (unk &&& ((unk &&& (m1 ||| (c1 ^^^ (-1)))) ^^^ (-1))) (Int32.ofNat (rnd + 1)) (zw4 ρ (th ||| ((unk &&& (m1 ||| (c1 ^^^ (-1)))) &&& m1)) (mi ||| ((unk &&& (m1 ||| (c1 ^^^ (-1)))) &&& (m1 ^^^ (-1)))) m1 c1, R)) := by
        intro mcc
        conv => lhs; unfold sp_Tk_settles_8
        rw [if_neg hlt26, if_neg hunk]
        simp only
        rw [hR, hb]
        simp only
        have : tw 200 (some a) b 1 (upd (upd (zw4 ρ th mi m c) 5 0) 6 0, R.1, R.2.1, E, R.2.2.2.1, R.2.2.2.2) = some (q_Codes_pair (co xm) (co xc), (zw4 ρ th mi m1 c1, R)) := by
          rw [w4_56, ← hR]
          exact r1
        rw [this]
        simp only
        have q5 : zw4 ρ th mi m1 c1 5 = m1 := rfl
        have q6 : zw4 ρ th mi m1 c1 6 = c1 := rfl
        have q3 : zw4 ρ th mi m1 c1 3 = th := rfl
        have q4 : zw4 ρ th mi m1 c1 4 = mi := rfl
        rw [q5, q6, q3, q4, w4_34, ofN_s]
      have hrf : ∀ (X : Option (Int32 × gm_S)), sp_Md_work_124 (mr + 1) (Int32.ofNat k) v2 v3 res v5' (stK σ K') = X → sp_Md_work_124 (mr + 2) (Int32.ofNat k) v2 v3 res 1 (stK σ K) = X := by
        intro X hX
        conv => lhs; unfold sp_Md_work_124
        rw [if_neg (by decide), if_pos (gi_of (by omega : k < 7) (by decide)), cl_of (by omega), stK_n (by decide)]
        have e1 : sp_Md_must (σ.2 16 k) res (stK σ K) = some (xm, stK σ K) := by
          unfold sp_Md_must
          rw [stK_38]
          rw [show (stK σ K).1 39 = σ.1 39 from rfl, f1]
        have e2 : sp_Md_can (σ.2 16 k) res 1 (stK σ K) = some (xc, stK σ K) := by
          unfold sp_Md_can
          rw [stK_38]
          rw [show (stK σ K).1 39 = σ.1 39 from rfl, f2]
        rw [e1]
        simp only
        rw [stK_n (by decide), e2]
        simp only
        rw [show (0 : Int32) = Int32.ofNat 0 from rfl] at g1 ⊢
        rw [g1]
        exact hX
      have hvl : ∀ i, i < no → K (lo i) = 0 → (vl xm xc (lo i) = 0 ↔ (sg xm (lo i) || !sg xc (lo i)) = false) := by
        intro i hi _
        unfold vl
        cases sg xm (lo i) <;> cases sg xc (lo i) <;> simp
      have hin : ∀ i, i < ni → K' (li i) = K (li i) := fun i hi => g3 _ (fun i' _ hi' e => PB_io hB hn hi hi' e.symm)
      by_cases hnews : (unk &&& (m1 ||| (c1 ^^^ (-1)))) = 0
      · -- nothing new
        have hall : ∀ i, i < no → K (lo i) = 0 → vl xm xc (lo i) = 0 := by
          intro i hi h0
          rw [hvl i hi h0]
          have := hnw i hi
          rw [hnews, bt_0, h0] at this
          simpa using this.symm
        have hKK : K' = K := by
          funext j
          by_cases hj : ∃ i, i < no ∧ lo i = j
          · obtain ⟨i, hi, rfl⟩ := hj
            rw [g2 i (by omega) hi]
            by_cases h0 : K (lo i) = 0
            · rw [if_pos h0, hall i hi h0, h0]
            · rw [if_neg h0]
          · exact g3 j (fun i _ hi e => hj ⟨i, hi, e⟩)
        have hv : v5' = 0 := g5.mpr ⟨rfl, fun i _ hi h => by rw [hKK]; exact h⟩
        refine ⟨K, th, mi, m1, c1, 0, ?_, ?_, hK, Or.inr ⟨rfl, ?_⟩, fun _ _ => rfl⟩
        · refine hrf _ ?_
          rw [hv, hKK]
          conv => lhs; unfold sp_Md_work_124
          rw [if_pos rfl]
        · rw [hcls mc, if_pos hnews]
        · obtain ⟨q, _, hq⟩ := bt_nz hunk
          obtain ⟨i, hi, rfl⟩ := hu2 q hq
          rw [hu1 i hi] at hq
          exact ⟨i, hi, of_decide_eq_true hq⟩
      · have hex : ∃ i, i < no ∧ K (lo i) = 0 ∧ K' (lo i) ≠ 0 := by
          obtain ⟨q, _, hq⟩ := bt_nz hnews
          obtain ⟨i, hi, rfl⟩ := hnw2 q hq
          rw [hnw i hi, Bool.and_eq_true] at hq
          have h0 := of_decide_eq_true hq.1
          refine ⟨i, hi, h0, ?_⟩
          rw [g2 i (by omega) hi, if_pos h0]
          intro e
          rw [(hvl i hi h0).mp e] at hq
          cases hq.2
        have hv : v5' = 1 := by
          rcases g4 with e | e
          · obtain ⟨i, hi, h0, h1⟩ := hex
            exact absurd ((g5.mp e).2 i (by omega) hi h0) h1
          · exact e
        have hlt : cu K' lo no < cu K lo no := cu_lt (fun i hi e => by
          rw [g2 i (by omega) hi] at e
          by_cases h0 : K (lo i) = 0
          · exact h0
          · rw [if_neg h0] at e; exact e) hex
        have hK' : Kn β Γ K' (th ||| ((unk &&& (m1 ||| (c1 ^^^ (-1)))) &&& m1)) (mi ||| ((unk &&& (m1 ||| (c1 ^^^ (-1)))) &&& (m1 ^^^ (-1)))) := by
          intro j hj
          by_cases hjo : ∃ i, i < no ∧ lo i = j
          · obtain ⟨i, hi, rfl⟩ := hjo
            have hg : Γ (lo i) = true := (hΓ _ hj).mpr (Or.inr ⟨i, hi, rfl⟩)
            obtain ⟨kv, kt, km⟩ := (hK _ hj).1 hg
            have b1 : nz β ((unk &&& (m1 ||| (c1 ^^^ (-1)))) &&& m1) (lo i) = (decide (K (lo i) = 0) && sg xm (lo i)) := by
              rw [nz_p2 (by omega) (hB.2 i hi), bt_and, hnw i hi, ← nz_p2 (m := m1) (by omega) (hB.2 i hi), hm1 _ hj]
              cases decide (K (lo i) = 0) <;> cases sg xm (lo i) <;> simp
            have b2 : nz β ((unk &&& (m1 ||| (c1 ^^^ (-1)))) &&& (m1 ^^^ (-1))) (lo i) = (decide (K (lo i) = 0) && (!sg xm (lo i) && !sg xc (lo i))) := by
              rw [nz_p2 (by omega) (hB.2 i hi), bt_and, hnw i hi, bt_not, ← nz_p2 (m := m1) (by omega) (hB.2 i hi), hm1 _ hj]
              have : ni + i < 32 := by omega
              simp only [this, decide_true, Bool.true_and]
              cases decide (K (lo i) = 0) <;> cases sg xm (lo i) <;> cases sg xc (lo i) <;> simp
            refine ⟨fun _ => ?_, fun e => by rw [hg] at e; cases e⟩
            rw [nz_or, nz_or, b1, b2, kt, km, g2 i (by omega) hi]
            by_cases h0 : K (lo i) = 0
            · rw [if_pos h0, h0]
              unfold vl
              cases sg xm (lo i) <;> cases sg xc (lo i) <;> simp
            · rw [if_neg h0]
              refine ⟨kv, ?_, ?_⟩ <;> simp [h0]
          · have hKj : K' j = K j := g3 j (fun i _ hi e => hjo ⟨i, hi, e⟩)
            have z1 : nz β ((unk &&& (m1 ||| (c1 ^^^ (-1)))) &&& m1) j = false := nz_out hO hB hlo' hn hj (fun i hi e => hjo ⟨i, hi, e⟩) (fun q hq => by
              rw [bt_and, Bool.and_eq_true] at hq
              exact hnw2 q hq.1)
            have z2 : nz β ((unk &&& (m1 ||| (c1 ^^^ (-1)))) &&& (m1 ^^^ (-1))) j = false := nz_out hO hB hlo' hn hj (fun i hi e => hjo ⟨i, hi, e⟩) (fun q hq => by
              rw [bt_and, Bool.and_eq_true] at hq
              exact hnw2 q hq.1)
            rw [nz_or, nz_or, z1, z2, Bool.or_false, Bool.or_false, hKj]
            exact hK j hj
        have hu1' : ∀ i, i < no → bt (unk &&& ((unk &&& (m1 ||| (c1 ^^^ (-1)))) ^^^ (-1))) (ni + i) = decide (K' (lo i) = 0) := by
          intro i hi
          rw [bt_and, bt_not, hnw i hi, hu1 i hi, g2 i (by omega) hi]
          have : ni + i < 32 := by omega
          by_cases h0 : K (lo i) = 0
          · rw [if_pos h0, h0]
            unfold vl
            cases sg xm (lo i) <;> cases sg xc (lo i) <;> simp [this]
          · rw [if_neg h0]
            simp [h0]
        have hu2' : ∀ q, bt (unk &&& ((unk &&& (m1 ||| (c1 ^^^ (-1)))) ^^^ (-1))) q = true → ∃ i, i < no ∧ q = ni + i := by
          intro q hq
          rw [bt_and, Bool.and_eq_true] at hq
          exact hu2 q hq.1
        obtain ⟨K2, th2, mi2, m2, c2, fl, a1, a2, a3, a4, a5⟩ := ih K' _ _ m1 c1 _ (rnd + 1) (mr + 1) mc (by omega) (by omega) (by omega) (by omega) hK' hu1' hu2'
        refine ⟨K2, th2, mi2, m2, c2, fl, ?_, ?_, a3, a4, fun i hi => by rw [a5 i hi, hin i hi]⟩
        · refine hrf _ ?_
          rw [hv]
          exact a1
        · rw [hcls mc, if_neg hnews]
          exact a2
end K2
