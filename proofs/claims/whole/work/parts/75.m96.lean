section R5
variable {n0 len np nI lim hi : Nat} {r rs : Nat → Int32} {T Ts : Nat → Nat → Int32} {g pg ig : Nat → Option Nat} {k9 k10 : Option Nat} {σ σ' : gm_S} {h h' : ck_S} {E E' : ck_E}
theorem le0_i {v : Int32} (h : v ≤ 0) (h0 : v ≠ 0) : v < 0 := by
  rw [Int32.le_iff_toInt_le] at h
  rw [Int32.lt_iff_toInt_lt]
  have e : (0 : Int32).toInt = 0 := rfl
  have : v.toInt ≠ 0 := fun e' => h0 (Int32.toInt_inj.mp (by rw [e', e]))
  omega
theorem stand_j {k P : Nat} {v : Int32} {pt e : Nat} (hP : zPX lim hi σ.2 h.2.2.2.1 k P) (h19 : σ.1 19 = Int32.ofNat pt) (hpt : pt ≤ 2600) (he : e ≤ pt) (h49 : σ.2 49 (k + 1) = Int32.ofNat e) (hn2 : v ≠ -2) (hn3 : v ≠ -3) : ∃ n b, n ≤ 30 ∧ σ.2 17 k = Int32.ofNat n ∧ (b = 0 ∨ b = 1) ∧ sp_Prog_canStandAt P v h = some (b, h) ∧ (v ≤ 0 → b = 0) ∧ (¬ v ≤ 0 → ¬ ((v >>> (Int32.ofNat n &&& 31)) = 0) → b = 0) ∧ (¬ v ≤ 0 → (v >>> (Int32.ofNat n &&& 31)) = 0 → sp_Md_canStand (Int32.ofNat k) v σ = some (b, σ)) ∧ (b = 1 → sOK (wI σ.2 k) v) := by
  obtain ⟨ni, no, li, lo, β, Γ, a, n, x, pa, fp, ⟨p1, p2, p3, p4, p5, p6, p7, p8, p9, p10, p11, p12, p13, p14, p15, p16, p17, p18, p19⟩, _⟩ := hP
  have h30 := (nR_1 p11).2
  have ex1 : x.1.1 = σ.2 16 k := by rw [p10]
  have ex2 : x.1.2 = a := by rw [p10]
  have hnode : egI h.2.2.2.1 a 2 3 = some (wI σ.2 k) := by
    cases n with
    | zero => exact absurd p11 id
    | succ n =>
      have q2 := p11.2.2.2.2.2.2.1
      rw [ex1, ex2] at q2
      exact q2
  have hm : ∀ i, bt (wI σ.2 k) i = decide (i < x.2.2.2.2) := fun i => by
    have := nR_mask p11 i
    rw [ex1, p14] at this
    unfold wI
    rw [this]
    exact decide_eq_decide.mpr (by omega)
  have hsub := sub_msk (v := v) h30 hm
  have hnst := nst_nR (S := v) (σ := h) rfl n Γ 0 x p11 200 (by omega)
  rw [ex2] at hnst
  have hfe : x.2.1.2 = e := by
    rw [p13] at h49
    have := (nR_1 p11).1
    exact (eq_N (by omega) (by omega)).mp h49
  have hpi := nR_pi p11
  have hcs := cs_2 (σ := σ) (S := v) (k := k) p1.1 p12 p13 h19 hpt (by omega) (by have := (nR_1 p11).1; omega) (fun q a1 a2 => (nR_in _ _ _ _ p11 q a1 a2).2) 2601 0 (by omega) (by omega)
  have hP0 : sp_Prog_canStandAt P v h = if v = 0 then some ((0 : Int32), h) else if v &&& (wI σ.2 k ^^^ (-1)) = 0 then (match nst 200 a v h with
      | none => none
      | some y10 => (if y10.1 = 0 then some (0, y10.2) else some (1, y10.2))) else some (0, h) := by
    unfold sp_Prog_canStandAt
    rw [if_neg hn2, if_neg hn3, p8]
    simp only
    rw [hnode]
    simp only
    rw [if_pos (eo_I hnode)]
    rfl
  by_cases h0 : v ≤ 0
  · refine ⟨x.2.2.2.2, 0, h30, p15, Or.inl rfl, ?_, fun _ => rfl, fun hx => absurd h0 hx, fun hx => absurd h0 hx, fun e => absurd e (by decide)⟩
    rw [hP0]
    by_cases hz : v = 0
    · rw [if_pos hz]
    · have hneg := le0_i h0 hz
      rw [if_neg hz, if_neg (fun e => by have := hsub.mp e 31 (neg_bt.mp hneg); omega)]
  · have hv : ¬ v < 0 := fun e => h0 (by
      rw [Int32.lt_iff_toInt_lt] at e
      rw [Int32.le_iff_toInt_le]
      omega)
    have hz : ¬ (v = 0) := fun e => h0 (by rw [e]; decide)
    have hsh := shr_sub (n := x.2.2.2.2) h30 hv
    by_cases hs : ∀ q, bt v q = true → q < x.2.2.2.2
    · by_cases hok : ∀ q, x.2.1.1 ≤ q → q < x.2.1.2 → okp σ.2 v q
      · refine ⟨x.2.2.2.2, 1, h30, p15, Or.inr rfl, ?_, fun e => absurd e h0, fun _ e => absurd (hsh.mpr hs) e, fun _ _ => hcs.1 (fun q' _ a b => hok q' a b), fun _ => ?_⟩
        · rw [hP0, if_neg hz, if_pos (hsub.mpr hs), hnst.1 hok]
          rfl
        · refine Or.inr (Or.inr ⟨hn2, hn3, fun e => ?_⟩)
          obtain ⟨q, q1, q2⟩ := bt_nz hz
          have hb : bt (wI σ.2 k) q = true := by rw [hm]; exact decide_eq_true (hs q q2)
          have := bt_az.mp e q hb
          rw [q2] at this
          cases this
      · refine ⟨x.2.2.2.2, 0, h30, p15, Or.inl rfl, ?_, fun e => absurd e h0, fun _ e => absurd (hsh.mpr hs) e, fun _ _ => hcs.2 (fun k => hok (fun q' a b => k q' (by omega) a b)), fun e => absurd e (by decide)⟩
        rw [hP0, if_neg hz, if_pos (hsub.mpr hs), hnst.2 hok]
        rfl
    · refine ⟨x.2.2.2.2, 0, h30, p15, Or.inl rfl, ?_, fun _ => rfl, fun _ _ => rfl, fun _ e => absurd (hsh.mp e) hs, fun e => absurd e (by decide)⟩
      rw [hP0, if_neg hz, if_neg (fun e => hs (hsub.mp e))]
theorem back_k {v w : Int32} (hR : REL n0 σ h) : OK n0 0 0 0 σ h (sp_Md_back v w σ) (sp_H_back v w h) := by
  obtain ⟨len, np, nI, r, rs, T, Ts, g, pg, ig, k9, k10, hx⟩ := hR
  have hR' : REL n0 (upd σ.1 0 0, σ.2) h := ⟨len, np, nI, r, rs, T, Ts, g, pg, ig, k9, k10, hx⟩
  obtain ⟨x1, x2, x3, x4, x5, x6, x7, x8, x9⟩ := hx
  have x8' : RI n0 np nI pg ig (upd σ.1 0 0, σ.2) h := x8
  have hnp := x7.2.1
  have hnI := x8.2.2.1
  have hnx := x1.2.2.2.2.2
  unfold sp_Md_back sp_H_back
  rcases inA (v := v) x1 x4 x8' with ⟨i, I, k, P, e, hi, e1, e2, e3, e4, e5, e6, e7, e8, e9, e10⟩ | ⟨e1, e2⟩
  · rw [e1, e2]
    simp only
    have h45 : σ.2 45 i = Int32.ofNat k := e8
    have hP : zPX (n0 + 17) h.2.2.2.2.1 σ.2 h.2.2.2.1 k P ∧ ∃ pt ee, pt ≤ 2600 ∧ ee ≤ pt ∧ σ.1 19 = Int32.ofNat pt ∧ σ.2 49 (k + 1) = Int32.ofNat ee := by
      rcases x7.2.2.2 with ⟨_, a2, _⟩ | ⟨_, _, _, a4, a5, _⟩
      · omega
      · obtain ⟨P', q1, q2⟩ := a5 k e6
        have : P' = P := by rw [e7] at q1; cases q1; rfl
        rw [← this]
        obtain ⟨pt, u1, u2, u3⟩ := a4
        obtain ⟨ee, t1, t2⟩ := u3 k e6
        exact ⟨q2, pt, ee, u1, t1, u2, t2⟩
    obtain ⟨hP, pt, ee, t1, t2, t3, t4⟩ := hP
    have cR : egR h.2.2.2.1 I 1 0 = some (some P) := by
      unfold egR eg
      rw [e9]
      rfl
    have heP : eo h.2.2.2.1 P 3 = true := by
      obtain ⟨ni, no, li, lo, β, Γ, a, n, x, pa, fp, ⟨p1, p2, p3, p4, p5, _⟩, _⟩ := hP
      exact eo_I p5
    have g1 : h.2.2.2.1 I = some (.inr (1, [.ref P, .int (σ.2 46 i), .int (σ.2 47 i), .int (σ.2 48 i)])) := e9
    rw [cR]
    simp only
    rw [if_pos heP, e, if_neg (by decide), if_pos (gi_of (by omega) (by decide)), cl_of (by omega), h45]
    have hset : sOK (wI σ.2 k) w → OK n0 0 0 0 σ h (some (1, ((upd σ.1 0 0), gm_up σ.2 46 (upd (σ.2 46) i w)))) (match ep h.2.2.2.1 I 1 1 (.int w) with
        | none => none
        | some y8 => some ((1 : Int32), (h.1, h.2.1, h.2.2.1, y8, h.2.2.2.2.1, h.2.2.2.2.2))) := by
      intro hs
      rw [ep_g g1 (by simp)]
      simp only [List.set]
      refine ⟨1, _, _, rfl, rfl, ⟨len, np, nI, r, rs, T, Ts, g, pg, ig, k9, k10, ?_⟩, Nat.le_refl _, Nat.le_refl _, Nat.le_refl _, Nat.le_refl _⟩
      have hEo : ∀ q, q ≠ I → eset h.2.2.2.1 I (iC P w (σ.2 47 i) (σ.2 48 i)) q = h.2.2.2.1 q := fun q a => eset_ne a
      refine ⟨x1, RC_fr (fun q a b => hEo q (by omega)) x2, SC_fr (fun q a b => hEo q (by omega)) x3, ⟨?_, ?_, ?_⟩, x5, x6, ?_, ?_, x9⟩
      · obtain ⟨ρ, hρ⟩ := x4.1
        exact ⟨ρ, by rw [← hρ]; exact hEo _ (by omega)⟩
      · rw [← x4.2.1]
        exact hEo _ (by omega)
      · rw [← x4.2.2]
        exact hEo _ (by omega)
      · refine RP_fr (σ := σ) (h := h) (fun j hj => ?_) (fun j hj => ?_) rfl (eB_set (eN_o g1 (by decide) (by decide))) (Nat.le_refl _) x7
        · show upd σ.1 0 0 j = _
          rw [upd_ne (by omega)]
        · show gm_up _ _ _ j = _
          unfold gm_up
          rw [if_neg (by omega)]
      · refine RI_up (σ := σ) (h := h) (s := w) (o := σ.2 47 i) (t := σ.2 48 i) x8 hi e3 e7 e6 h45 eset_eq (fun q a b d => hEo q d) (Nat.le_refl _) rfl rfl rfl rfl ?_ ?_ (fun k => ?_) hs
        · show σ.2 47 = _
          rw [upd_self]
        · show σ.2 48 = _
          rw [upd_self]
        · unfold wI
          rfl
    by_cases w2 : w = -2
    · have : sp_Prog_canStandAt P w h = some (1, h) := by
        unfold sp_Prog_canStandAt
        rw [if_pos w2]
      rw [this, if_pos w2]
      simp only
      rw [if_neg (by decide)]
      exact hset (Or.inl w2)
    · by_cases w3 : w = -3
      · have : sp_Prog_canStandAt P w h = some (1, h) := by
          unfold sp_Prog_canStandAt
          rw [if_neg w2, if_pos w3]
        rw [this, if_neg w2, if_pos w3]
        simp only
        rw [if_neg (by decide)]
        exact hset (Or.inr (Or.inl w3))
      · rw [if_neg w2, if_neg w3]
        obtain ⟨n, b, s1, s2, s3, s4, s5, s6, s7, s8⟩ := stand_j (σ := (upd σ.1 0 0, σ.2)) (v := w) hP t3 t1 t2 t4 w2 w3
        have s2' : σ.2 17 k = Int32.ofNat n := s2
        rw [s4]
        simp only
        by_cases hle : w ≤ 0
        · rw [if_pos hle, s5 hle, if_pos rfl]
          exact OK_0 rfl rfl hR'
        · rw [if_neg hle, if_pos (gi_of (by omega) (by decide)), cl_of (by omega), s2', if_neg (show ¬ ((31 : Int32) ≤ Int32.ofNat n) from fun e => by have := (le_N (a := 31) (by decide) (by omega)).mp e; omega)]
          by_cases hsh : (w >>> (Int32.ofNat n &&& 31)) = 0
          · rw [if_pos hsh, s7 hle hsh]
            simp only
            rcases s3 with rfl | rfl
            · rw [if_pos rfl, if_pos rfl]
              exact OK_0 rfl rfl hR'
            · rw [if_neg (by decide), if_neg (by decide)]
              exact hset (s8 rfl)
          · rw [if_neg hsh, s6 hle hsh, if_pos rfl]
            exact OK_0 rfl rfl hR'
  · rw [e1, e2]
    exact OK_0 rfl rfl hR'
end R5
