section K4
variable {σ : gm_S} {k ni no : Nat} {li lo : Nat → Nat} {β : Nat → Int32} {E : ck_E} {Γ : Nat → Bool} {P a : Nat}
def sOK (w st : Int32) : Prop := st = -2 ∨ st = -3 ∨ (st ≠ -2 ∧ st ≠ -3 ∧ w &&& st ≠ 0)
theorem not_neg {s : Int32} (h : bt s 31 = false) : s ≠ -2 ∧ s ≠ -3 := by
  constructor
  · intro e
    rw [e] at h
    exact absurd h (by decide)
  · intro e
    rw [e] at h
    exact absurd h (by decide)
theorem gw_st1 {σ : gm_S} {s f : Int32} {j : Nat} (h41 : j ≠ 41) (h40 : j ≠ 40) : (gw_st σ s f).1 j = σ.1 j := by
  unfold gw_st
  show upd (upd σ.1 41 s) 40 f j = _
  rw [upd_ne h40, upd_ne h41]
theorem wk_run (hD : zPD σ.2 k ni no li lo) (hB : zPB β ni no li lo) (hO : bO β) (hΓ : ∀ j, j < 26 → (Γ j = true ↔ (∃ i, i < ni ∧ li i = j) ∨ (∃ i, i < no ∧ lo i = j))) {R : (Nat → Nat → Int32) × (Nat → Option Nat) × ck_E × Nat × Nat} (hR : R.2.2.1 = E) (e1 : egI E P 3 1 = some (Int32.ofNat ni)) (e2 : egI E P 3 2 = some (Int32.ofNat no)) (e3 : egR E P 3 3 = some (some a)) {n : Nat} {x : kd_R} (hn : n < 199) (hx1 : x.1 = (σ.2 16 k, a)) (hN : nR σ.2 E β n Γ 0 x)
    {res b : Int32} (hrb : res = 0 ∧ b = 1 ∨ res = 1 ∧ b = 0 ∧ σ.2 25 (σ.2 16 k).toNatClampNeg &&& σ.1 39 ≠ 0) {ρ : Nat → Int32} (hρ : ρ 2 = σ.1 39) {v2 v3 : Int32} (h43 : σ.1 43 = 0) {th mi m c : Int32} (hset : ∀ q, bt v3 q = true → q < ni) (hth : th = v3) (hmi : mi = ((1 : Int32) <<< (Int32.ofNat ni &&& 31) - 1) &&& (v3 ^^^ (-1))) :
    ∃ how σ' ρ', sp_Md_work_48 2601 (Int32.ofNat k) v2 v3 res 0 σ = some (how, σ') ∧ (match sp_Tk_settles (some P) b (zw4 ρ th mi m c, R) with
      | none => none
      | some y23 => (if y23.1 = 0 then some (1, y23.2) else (match egR y23.2.2.2.2.1 P 3 3 with
        | none => none
        | some y25 => (match tp 200 y25 b ((upd (upd y23.2.1 7 0) 8 0), y23.2.2.1, y23.2.2.2.1, y23.2.2.2.2.1, y23.2.2.2.2.2.1, y23.2.2.2.2.2.2) with
          | none => none
          | some y26 => (if (y26.2.1 8) = 0 then (if y26.1 = 0 then (if eo y26.2.2.2.2.1 P 3 = true then (match sp_Prog_outputBits P ((upd y26.2.1 0 (-3)), y26.2.2.1, y26.2.2.2.1, y26.2.2.2.2.1, y26.2.2.2.2.2.1, y26.2.2.2.2.2.2) with
            | none => none
            | some y33 => (match egI y33.2.2.2.2.1 P 3 1 with
              | none => none
              | some y34 => some (0, ((upd y33.2.1 1 (q_ush ((y26.2.1 3) &&& y33.1) y34)), y33.2.2.1, y33.2.2.2.1, y33.2.2.2.2.1, y33.2.2.2.2.2.1, y33.2.2.2.2.2.2)))) else none) else (if eo y26.2.2.2.2.1 P 3 = true then (match sp_Prog_outputBits P ((upd y26.2.1 0 (y26.2.1 7)), y26.2.2.1, y26.2.2.2.1, y26.2.2.2.2.1, y26.2.2.2.2.2.1, y26.2.2.2.2.2.2) with
            | none => none
            | some y30 => (match egI y30.2.2.2.2.1 P 3 1 with
              | none => none
              | some y31 => some (0, ((upd y30.2.1 1 (q_ush ((y26.2.1 3) &&& y30.1) y31)), y30.2.2.1, y30.2.2.2.1, y30.2.2.2.2.1, y30.2.2.2.2.2.1, y30.2.2.2.2.2.2)))) else none)) else some (2, y26.2)))))) = some (how, (ρ', R)) ∧ (how = 0 ∨ how = 1 ∨ how = 2) ∧ (∀ j, (j < 40 ∨ 43 < j) → σ'.1 j = σ.1 j) ∧ (∀ j, j ≠ 38 → σ'.2 j = σ.2 j) ∧ (how = 0 → ρ' 0 = σ'.1 42 ∧ ρ' 1 = σ'.1 43 ∧ (σ'.1 42 = -3 ∨ (σ'.1 42 ≠ -2 ∧ σ'.1 42 ≠ -3 ∧ σ.2 25 (σ.2 16 k).toNatClampNeg &&& σ'.1 42 ≠ 0))) := by
  have hD' := hD
  obtain ⟨hk, h12, h14, hno, hli, hlo⟩ := hD
  have hlo' : ∀ i, i < no → lo i < 26 := fun i hi => (hlo i hi).2
  have hx11 : x.1.1 = σ.2 16 k := by rw [hx1]
  have hx12 : x.1.2 = a := by rw [hx1]
  have hNK : ∀ K, nR (stK σ K).2 E β n Γ 0 x := fun K => nR_cg (fun j h1 h2 => stK_n (by omega)) n Γ 0 x hN
  obtain ⟨K1, a1, a2, _⟩ := wk_48 (σ := σ) (v1 := Int32.ofNat k) (v2 := v2) (v3 := v3) (v4 := res) 2601 0 (σ.2 38) (by omega) (by omega)
  rw [stK_id] at a1
  obtain ⟨K2, b1, b2, b3⟩ := wk_72 (σ := σ) hD' hB (v2 := v2) (v3 := v3) (v4 := res) 2601 0 K1 (by omega) (by omega)
  have hKin : ∀ i, i < ni → K2 (li i) = if bt v3 i = true then 1 else 2 := fun i hi => b2 i (by omega) hi
  have hKot : ∀ j, j < 26 → (∀ i, i < ni → li i ≠ j) → K2 j = 0 := fun j hj h => by rw [b3 j (fun i _ hi => h i hi)]; exact a2 j (by omega) hj
  have hKlo : ∀ i, i < no → K2 (lo i) = 0 := fun i hi => hKot _ (hlo' i hi) (fun i' hi' => PB_io hB hno hi' hi)
  have hinb : ∀ (x : Int32), (∀ q, bt x q = true → q < ni) → ∀ j, j < 26 → (∀ i, i < ni → li i ≠ j) → nz β x j = false := by
    intro x hx j hj hne
    apply Bool.eq_false_iff.mpr
    rw [Ne, nz_iff]
    rintro ⟨q, h1, h2⟩
    have hq := hx q h1
    have h3 := bt_az.mp (hO (li q) j (hli q hq).2 hj (hne q hq)) q (by rw [hB.1 q hq, bt_p2 (by omega)]; simp)
    rw [h2] at h3
    cases h3
  have hmib : ∀ q, bt mi q = true → q < ni := by
    intro q hq
    rw [hmi, bt_and, bt_msk (by omega), Bool.and_eq_true] at hq
    exact of_decide_eq_true hq.1
  have hthb : ∀ q, bt th q = true → q < ni := by rw [hth]; exact hset
  have hKn : Kn β Γ K2 th mi := by
    intro j hj
    by_cases hjin : ∃ i, i < ni ∧ li i = j
    · obtain ⟨i, hi, rfl⟩ := hjin
      have hg : Γ (li i) = true := (hΓ _ hj).mpr (Or.inl ⟨i, hi, rfl⟩)
      refine ⟨fun _ => ?_, fun e => by rw [hg] at e; cases e⟩
      have t1 : nz β th (li i) = bt v3 i := by rw [nz_p2 (by omega) (hB.1 i hi), hth]
      have t2 : nz β mi (li i) = !bt v3 i := by
        rw [nz_p2 (by omega) (hB.1 i hi), hmi, bt_and, bt_msk (by omega), bt_not]
        have : i < 32 := by omega
        simp [hi, this]
      rw [hKin i hi, t1, t2]
      cases bt v3 i <;> simp
    · have hne : ∀ i, i < ni → li i ≠ j := fun i hi e => hjin ⟨i, hi, e⟩
      have h0 := hKot j hj hne
      have t1 := hinb th hthb j hj hne
      have t2 := hinb mi hmib j hj hne
      rw [h0, t1, t2]
      exact ⟨fun _ => ⟨Or.inl rfl, by decide, by decide⟩, fun _ => ⟨rfl, rfl⟩⟩
  have hcu : cu K2 lo no ≤ 26 := by
    unfold cu
    have := List.length_filter_le (fun i => decide (K2 (lo i) = 0)) (List.range no)
    rw [List.length_range] at this
    omega
  have hW : ∀ K, WS (stK σ K).2 (σ.1 39) E β (mw (stK σ K).2 (σ.1 39) 200) (tw 200) Γ (σ.2 16 k) a := by
    intro K
    have := ws_nR (S := σ.1 39) hO n Γ 0 x (hNK K) 200 200 (by omega) (by omega)
    rw [hx11, hx12] at this
    exact this
  obtain ⟨K', th', mi', m', c', fl, s1, s2, s3, s4, s5⟩ := sett (σ := σ) (ρ := ρ) (R := R) (P := P) (v2 := v2) (v3 := v3) hD' hB hO hΓ hR e3 hrb hρ hW 26 K2 th mi m c (((1 : Int32) <<< (Int32.ofNat no &&& 31) - 1) <<< (Int32.ofNat ni &&& 31)) 0 2601 2601 hcu (by omega) (by omega) (by omega) hKn (fun i hi => by
    rw [bt_omsk hno, hKlo i hi]
    have : ni ≤ ni + i ∧ ni + i < ni + no := by omega
    simp [this]) (fun q hq => by
    rw [bt_omsk hno] at hq
    have := of_decide_eq_true hq
    exact ⟨q - ni, by omega, by omega⟩)
  have hstt : sp_Tk_settles (some P) b (zw4 ρ th mi m c, R) = some (fl, (zw4 ρ th' mi' m' c', R)) := by
    unfold sp_Tk_settles
    simp only
    rw [hR, if_pos (eo_ofI e1)]
    unfold sp_Prog_outputBits
    simp only [hR, e1, e2]
    exact s2
  have href : sp_Md_work_48 2601 (Int32.ofNat k) v2 v3 res 0 σ = sp_Md_work_272 2601 (Int32.ofNat k) v2 v3 res 0 (Int32.ofNat 0) (stK σ K') := by
    rw [show (0 : Int32) = Int32.ofNat 0 from rfl, a1]
    rw [show (0 : Int32) = Int32.ofNat 0 from rfl, b1, s1]
    rfl
  have hDK : zPD (stK σ K').2 k ni no li lo := hD'
  obtain ⟨c1, c2⟩ := wk_272 (σ := stK σ K') hDK (v2 := v2) (v3 := v3) (v4 := res) (v5 := 0) 2601 0 (by omega) (by omega)
  rw [href, hstt]
  simp only
  rcases s4 with ⟨hf, hall⟩ | ⟨hf, hex⟩
  · -- all is settled
    rw [c1 (fun i _ hi => hall i hi), hf]
    rw [if_neg (by decide), hR, e3]
    simp only
    have hkn : ∀ j, j < 26 → Γ j = true → K' j ≠ 0 := by
      intro j hj hg
      rcases (hΓ j hj).mp hg with ⟨i, hi, rfl⟩ | ⟨i, hi, rfl⟩
      · rw [s5 i hi, hKin i hi]
        cases bt v3 i <;> simp
      · exact hall i hi
    obtain ⟨_, _, hJ⟩ := ps_nR (S := σ.1 39) hO n Γ 0 x (hNK K') (by omega) 200 200 (by omega) (by omega) K' th' mi' s3 hkn res b (by
      rw [hx11]
      exact hrb)
    rw [hx11, hx12] at hJ
    obtain ⟨cd, s', fl', cd', mm, cc, s7, o, j1, j2, j3⟩ := hJ 0 (upd (upd (zw4 ρ th' mi' m' c') 7 0) 8 0, R) ⟨hR, hρ, rfl, rfl⟩ rfl rfl
    have hgo : sp_Md_go ((stK σ K').2 16 k) res (upd (upd (stK σ K').1 40 0) 41 0, (stK σ K').2) = some (cd, gw_st (upd (upd (stK σ K').1 40 0) 41 0, (stK σ K').2) s' fl') := by
      unfold sp_Md_go
      have : gw (stK σ K').2 ((upd (upd (stK σ K').1 40 0) 41 0) 39) 200 ((stK σ K').2 16 k) res ((stK σ K').2 38) ((upd (upd (stK σ K').1 40 0) 41 0) 41) ((upd (upd (stK σ K').1 40 0) 41 0) 40) = some (cd, s', fl') := j1
      rw [this]
    have htp : tp 200 (some a) b (upd (upd (zw4 ρ th' mi' m' c') 7 0) 8 0, R.1, R.2.1, E, R.2.2.2.1, R.2.2.2.2) = some (cd', (zu4 (upd (upd (zw4 ρ th' mi' m' c') 7 0) 8 0) mm cc s7 o, R)) := by
      rw [← hR]
      exact j2
    rw [hgo, htp]
    simp only
    have h40 : (gw_st (upd (upd (stK σ K').1 40 0) 41 0, (stK σ K').2) s' fl').1 40 = fl' := rfl
    have h8 : zu4 (upd (upd (zw4 ρ th' mi' m' c') 7 0) 8 0) mm cc s7 o 8 = o := rfl
    rw [h40, h8]
    rcases j3 with ⟨w1, w2, w3, w4', kk, d1, d2, d3, d4, d5⟩ | ⟨w1, w2⟩
    · rw [w1, w2, if_pos rfl, if_pos rfl]
      have hDg : ∀ z : Int32, zPD ((upd (gw_st (upd (upd (stK σ K').1 40 0) 41 0, (stK σ K').2) s' 0).1 42 z, (gw_st (upd (upd (stK σ K').1 40 0) 41 0, (stK σ K').2) s' 0).2) : gm_S).2 k ni no li lo := fun _ => hD'
      have houts : ∀ (z : Int32), ∃ o', sp_Md_work_368 2601 (Int32.ofNat k) v2 v3 res 0 cd 0 (upd (gw_st (upd (upd (stK σ K').1 40 0) 41 0, (stK σ K').2) s' 0).1 42 z, (gw_st (upd (upd (stK σ K').1 40 0) 41 0, (stK σ K').2) s' 0).2) = some (0, (upd (upd (gw_st (upd (upd (stK σ K').1 40 0) 41 0, (stK σ K').2) s' 0).1 42 z) 43 o', (stK σ K').2)) ∧ o' = q_ush (th' &&& (((1 : Int32) <<< (Int32.ofNat no &&& 31) - 1) <<< (Int32.ofNat ni &&& 31))) (Int32.ofNat ni) := by
        intro z
        obtain ⟨o', g1, g2⟩ := wk_368 (v2 := v2) (v3 := v3) (v4 := res) (v5 := 0) (v6 := cd) 2601 0 _ (hDg z) (by omega) (by omega)
        refine ⟨o', g1, ?_⟩
        apply bt_ext
        intro q hq
        rw [g2 q, bt_ush (by omega), bt_and, bt_omsk hno]
        have z43 : (upd (gw_st (upd (upd (stK σ K').1 40 0) 41 0, (stK σ K').2) s' 0).1 42 z) 43 = 0 := h43
        have z38 : (gw_st (upd (upd (stK σ K').1 40 0) 41 0, (stK σ K').2) s' 0).2 38 = K' := rfl
        simp only
        rw [z43, z38, bt_0, Bool.false_or]
        by_cases hqo : q < no
        · have i1 : (0 ≤ q ∧ q < no) := by omega
          have i2 : (ni ≤ ni + q ∧ ni + q < ni + no) := by omega
          have hg : Γ (lo q) = true := (hΓ _ (hlo' q hqo)).mpr (Or.inr ⟨q, hqo, rfl⟩)
          obtain ⟨_, kt, _⟩ := (s3 _ (hlo' q hqo)).1 hg
          rw [nz_p2 (by omega) (hB.2 q hqo)] at kt
          simp [i1, i2, kt]
        · have i1 : ¬ (0 ≤ q ∧ q < no) := by omega
          have i2 : ¬ (ni ≤ ni + q ∧ ni + q < ni + no) := by omega
          simp only [i1, i2, decide_false, Bool.and_false, Bool.false_and]
      have hbo : ∀ (r : Nat → Int32), sp_Prog_outputBits P (r, R) = some ((((1 : Int32) <<< (Int32.ofNat no &&& 31) - 1) <<< (Int32.ofNat ni &&& 31)), (r, R)) := by
        intro r
        unfold sp_Prog_outputBits
        simp only [hR, e1, e2]
      have hbo' : ∀ (r : Nat → Int32), sp_Prog_outputBits P (r, R.1, R.2.1, E, R.2.2.2.1, R.2.2.2.2) = some ((((1 : Int32) <<< (Int32.ofNat no &&& 31) - 1) <<< (Int32.ofNat ni &&& 31)), (r, R)) := by
        intro r
        have := hbo r
        rw [← hR]
        exact this
      have hRR : ((R.1, R.2.1, E, R.2.2.2.1, R.2.2.2.2) : (Nat → Nat → Int32) × (Nat → Option Nat) × ck_E × Nat × Nat) = R := by rw [← hR]
      have hbits : ∀ i, (i < x.2.2.2.1 ∨ x.2.2.2.2 ≤ i) → bt s' i = false := fun i hi => by rw [d3 i hi, bt_0]
      have hv30 : x.2.2.2.2 ≤ 30 := by
        cases n with
        | zero => exact absurd hN id
        | succ n => exact hN.2.2.2.2.2.2.2.2.2.1
      have hmask := nR_mask hN
      rw [hx11] at hmask
      by_cases hc0 : cd = 0
      · rw [if_pos hc0, if_pos (by rw [w3]; exact hc0), if_pos (by rw [hR]; exact eo_ofI e1)]
        obtain ⟨o', g1, g2⟩ := houts (-3)
        rw [g1, hR, hbo']
        simp only
        rw [hR, e1]
        simp only
        rw [hRR]
        refine ⟨0, _, _, rfl, rfl, Or.inl rfl, fun j hj => ?_, fun j hj => ?_, fun _ => ⟨rfl, ?_, Or.inl rfl⟩⟩
        · simp only
          rw [upd_ne (by omega), upd_ne (by omega), gw_st1 (by omega) (by omega)]
          simp only
          rw [upd_ne (by omega), upd_ne (by omega)]
          rfl
        · exact stK_n hj
        · show q_ush (th' &&& _) _ = o'
          rw [g2]
      · rw [if_neg hc0, if_neg (by rw [w3]; exact hc0), if_pos (by rw [hR]; exact eo_ofI e1)]
        obtain ⟨o', g1, g2⟩ := houts s'
        have g1' : sp_Md_work_368 2601 (Int32.ofNat k) v2 v3 res 0 cd 0 (upd (gw_st (upd (upd (stK σ K').1 40 0) 41 0, (stK σ K').2) s' 0).1 42 ((gw_st (upd (upd (stK σ K').1 40 0) 41 0, (stK σ K').2) s' 0).1 41), (gw_st (upd (upd (stK σ K').1 40 0) 41 0, (stK σ K').2) s' 0).2) = _ := g1
        rw [g1', hR, hbo']
        simp only
        rw [hR, e1]
        simp only
        rw [hRR]
        have hk1 : kk = 1 := by
          have : kk ≠ 0 := fun e => hc0 (by rw [d1, e]; rfl)
          omega
        obtain ⟨i, i1, i2, i3⟩ := d4 hk1
        refine ⟨0, _, _, rfl, rfl, Or.inl rfl, fun j hj => ?_, fun j hj => ?_, fun _ => ⟨?_, ?_, Or.inr ⟨?_, ?_, ?_⟩⟩⟩
        · simp only
          rw [upd_ne (by omega), upd_ne (by omega), gw_st1 (by omega) (by omega)]
          simp only
          rw [upd_ne (by omega), upd_ne (by omega)]
          rfl
        · exact stK_n hj
        · show s7 = s'
          exact w4'
        · show q_ush (th' &&& _) _ = o'
          rw [g2]
        · exact (not_neg (hbits 31 (by omega))).1
        · exact (not_neg (hbits 31 (by omega))).2
        · intro e
          have e' : σ.2 25 (σ.2 16 k).toNatClampNeg &&& s' = 0 := e
          have := bt_az.mp e' i (by rw [hmask i, decide_eq_true_iff]; exact ⟨i1, i2⟩)
          rw [i3] at this
          cases this
    · rw [w1, w2, if_neg (by decide), if_neg (by decide)]
      refine ⟨2, _, _, rfl, rfl, Or.inr (Or.inr rfl), fun j hj => ?_, fun j hj => ?_, fun h => absurd h (by decide)⟩
      · rw [gw_st1 (by omega) (by omega)]
        simp only
        rw [upd_ne (by omega), upd_ne (by omega)]
        rfl
      · exact stK_n hj
  · -- some stays open
    obtain ⟨i, hi, h0⟩ := hex
    rw [c2 ⟨i, by omega, hi, h0⟩, hf]
    rw [if_pos rfl]
    exact ⟨1, _, _, rfl, rfl, Or.inr (Or.inl rfl), fun _ _ => rfl, fun j hj => stK_n hj, fun h => absurd h (by decide)⟩
end K4
