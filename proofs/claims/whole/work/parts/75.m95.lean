section R4
variable {n0 len np nI lim hi : Nat} {r rs : Nat → Int32} {T Ts : Nat → Nat → Int32} {g pg ig : Nat → Option Nat} {k9 k10 : Option Nat} {σ σ' : gm_S} {h h' : ck_S} {E E' : ck_E}
theorem neg_bt {v : Int32} : v < 0 ↔ bt v 31 = true := by
  rw [Int32.lt_iff_toInt_lt]
  have e0 : (0 : Int32).toInt = 0 := rfl
  rw [e0]
  have e1 : v.toInt = v.toBitVec.toInt := rfl
  rw [e1, BitVec.toInt_neg_iff]
  show _ ↔ v.toBitVec.getLsbD 31 = true
  have e2 : v.toBitVec.getLsbD 31 = v.toBitVec.msb := (BitVec.msb_eq_getLsbD_last v.toBitVec).symm
  rw [e2, BitVec.msb_eq_decide, decide_eq_true_eq]
  omega
theorem sub_msk {v w : Int32} {n : Nat} (hn : n ≤ 30) (hw : ∀ i, bt w i = decide (i < n)) : (v &&& (w ^^^ (-1)) = 0 ↔ ∀ q, bt v q = true → q < n) := by
  rw [bt_az]
  constructor
  · intro k q hq
    have h1 := k q hq
    have hq32 : q < 32 := by
      rcases Nat.lt_or_ge q 32 with e | e
      · exact e
      · rw [bt_hi e] at hq; cases hq
    rw [bt_not, hw] at h1
    by_cases hl : q < n
    · exact hl
    · simp [hl, hq32] at h1
  · intro k q hq
    rw [bt_not, hw]
    have := k q hq
    simp [this]
theorem shr_sub {v : Int32} {n : Nat} (hn : n ≤ 30) (hv : ¬ v < 0) : ((v >>> (Int32.ofNat n &&& 31)) = 0 ↔ ∀ q, bt v q = true → q < n) := by
  have h31 : bt v 31 = false := by
    cases hb : bt v 31
    · rfl
    · exact absurd (neg_bt.mpr hb) hv
  rw [bt_z]
  constructor
  · intro k q hq
    rcases Nat.lt_or_ge q n with e | e
    · exact e
    · have := k (q - n)
      rw [bt_sshr (by omega) h31, show n + (q - n) = q by omega, hq] at this
      cases this
  · intro k i
    rw [bt_sshr (by omega) h31]
    cases hb : bt v (n + i)
    · rfl
    · have := k _ hb
      omega
theorem ep_g {b ci k : Nat} {fs : List Value} {z : Value} (h : E b = some (.inr (ci, fs))) (hk : k < fs.length) : ep E b ci k z = some (eset E b (.inr (ci, fs.set k z))) := by
  unfold ep
  rw [h]
  simp only
  rw [if_pos trivial, if_pos hk]
theorem eg_tC {b : Nat} {ρ : Nat → Int32} (h : E b = some (tC ρ)) : egI E b 6 0 = some (ρ 0) ∧ egI E b 6 1 = some (ρ 1) := ⟨(tC_0 h).1, (tC_0 h).2.1⟩
theorem hasIn {P ni : Nat} {v : Int32} (h1 : egI h.2.2.2.1 P 3 1 = some (Int32.ofNat ni)) (hn : ni ≤ 26) : sp_Prog_hasInputs P v h = some (@ite Int32 (∀ q, bt v q = true → q < ni) (Classical.propDecidable _) 1 0, h) := by
  unfold sp_Prog_hasInputs sp_Prog_inputBits
  rw [if_pos (eo_I h1), h1]
  simp only
  have e := sub_msk (v := v) (w := (1 : Int32) <<< (Int32.ofNat ni &&& 31) - 1) (n := ni) (by omega) (fun i => bt_msk hn)
  by_cases hs : ∀ q, bt v q = true → q < ni
  · rw [if_pos (e.mpr hs), if_pos hs]
  · rw [if_neg (fun x => hs (e.mp x)), if_neg hs]
theorem tick_k {v w : Int32} (hR : REL n0 σ h) : OK n0 0 0 0 σ h (sp_Md_tick v w σ) (sp_H_tick v w h) := by
  obtain ⟨len, np, nI, r, rs, T, Ts, g, pg, ig, k9, k10, hx⟩ := hR
  have hR' : REL n0 (upd σ.1 0 0, σ.2) h := ⟨len, np, nI, r, rs, T, Ts, g, pg, ig, k9, k10, hx⟩
  obtain ⟨x1, x2, x3, x4, x5, x6, x7, x8, x9⟩ := hx
  have x8' : RI n0 np nI pg ig (upd σ.1 0 0, σ.2) h := x8
  have hnp := x7.2.1
  have hnI := x8.2.2.1
  have hnx := x1.2.2.2.2.2
  unfold sp_Md_tick sp_H_tick
  rcases inA (v := v) x1 x4 x8' with ⟨i, I, k, P, e, hi, e1, e2, e3, e4, e5, e6, e7, e8, e9, e10⟩ | ⟨e1, e2⟩
  · rw [e1, e2]
    simp only
    have hP : zPX (n0 + 17) h.2.2.2.2.1 σ.2 h.2.2.2.1 k P := by
      rcases x7.2.2.2 with ⟨_, a2, _⟩ | ⟨_, _, _, _, a5, _⟩
      · omega
      · obtain ⟨P', q1, q2⟩ := a5 k e6
        have : P' = P := by rw [e7] at q1; cases q1; rfl
        rw [← this]
        exact q2
    have hPR := PX_R hP
    obtain ⟨ni, no, li, lo, β, Γ, a, n, x, pa, fp, ⟨p1, p2, p3, p4, p5, p6, p7, _⟩, _⟩ := hP
    have hni : σ.2 12 k = Int32.ofNat ni := p1.2.1
    have hn26 : ni ≤ 26 := by have := p1.2.2.2.1; omega
    have cR : egR h.2.2.2.1 I 1 0 = some (some P) := by
      unfold egR eg
      rw [e9]
      rfl
    have cI : egI h.2.2.2.1 I 1 1 = some (σ.2 46 i) := by
      unfold egI eg
      rw [e9]
      rfl
    have h45 : σ.2 45 i = Int32.ofNat k := e8
    rw [cR]
    simp only
    rw [if_pos (eo_I p6), hasIn p6 hn26, e, if_neg (by decide)]
    simp only
    rw [cR, cI, x1.2.1]
    simp only
    have hA : ∀ {a : Int32} {R : Option (Int32 × gm_S)} {C : Option (Int32 × ck_S)}, R = some (a, (upd σ.1 0 0, σ.2)) → C = some (a, h) → OK n0 0 0 0 σ h R C := fun e1 e2 => OK_0 e1 e2 hR'
    by_cases hw : w < 0
    · rw [if_pos hw]
      have hns : ¬ (∀ q, bt w q = true → q < ni) := fun k => by
        have := k 31 (neg_bt.mp hw)
        omega
      rw [if_neg hns, if_pos rfl]
      exact hA rfl rfl
    · rw [if_neg hw, if_pos (gi_of (by omega) (by decide)), cl_of (by omega), h45, if_pos (gi_of (by omega) (by decide)), cl_of (by omega), hni]
      by_cases hs : ∀ q, bt w q = true → q < ni
      · rw [if_pos ((shr_sub (by omega) hw).mpr hs), if_pos hs, if_neg (by decide)]
        obtain ⟨ρ, hρ⟩ := x4.1
        rw [if_pos (tC_0 hρ).2.2]
        obtain ⟨how, σ1, ρ', w1, w2, w3, w4, w5, w6⟩ := PR_tk (σ := (upd σ.1 0 0, σ.2)) hPR h rfl hρ (st := σ.2 46 i) (set := w) e10 hni hn26 hs
        rw [w1, w2]
        simp only
        have f1 : ∀ q, q ≠ n0 + 7 → eset h.2.2.2.1 (n0 + 7) (tC ρ') q = h.2.2.2.1 q := fun q hq => eset_ne hq
        have f7 : eset h.2.2.2.1 (n0 + 7) (tC ρ') (n0 + 7) = some (tC ρ') := eset_eq
        have hbT : eB (n0 + 17) h.2.2.2.2.1 h.2.2.2.1 (eset h.2.2.2.1 (n0 + 7) (tC ρ')) := eB_set (eN_o hρ (by decide) (by decide))
        have n1 : ∀ j, (j = 1 ∨ j = 5 ∨ j = 7 ∨ j = 8 ∨ j = 9 ∨ j = 10 ∨ j = 19 ∨ j = 44 ∨ j = 50 ∨ j = 51 ∨ j = 55) → σ1.1 j = σ.1 j := fun j hj => by
          rw [w4 j (by omega)]
          show upd σ.1 0 0 j = _
          rw [upd_ne (by omega)]
        have n2 : ∀ j, j ≠ 38 → σ1.2 j = σ.2 j := w5
        have hT5 : RTx len r T σ1 := by
          unfold RTx at x5 ⊢
          rw [n1 1 (by omega), n2 2 (by decide)]
          exact x5
        have hS9 : RS rs Ts σ1 := by
          unfold RS at x9 ⊢
          rw [n1 50 (by omega), n1 51 (by omega), n1 55 (by omega), n2 56 (by decide)]
          exact x9
        have hF6 : h.1 7 = σ1.1 8 ∧ h.1 8 = σ1.1 9 := by rw [n1 8 (by omega), n1 9 (by omega)]; exact x6
        have hwI : ∀ k, wI σ1.2 k = wI σ.2 k := fun k => by
          unfold wI
          rw [n2 25 (by decide), n2 16 (by decide)]
        by_cases h0 : how = 0
        · rw [if_pos h0, if_pos h0, x1.2.1]
          simp only
          obtain ⟨v1, v2, v3⟩ := w6 h0
          have g1 : eset h.2.2.2.1 (n0 + 7) (tC ρ') I = some (.inr (1, [.ref P, .int (σ.2 46 i), .int (σ.2 47 i), .int (σ.2 48 i)])) := by rw [f1 I (by omega)]; exact e9
          rw [(eg_tC f7).1]
          simp only
          rw [ep_g g1 (by simp)]
          simp only [List.set]
          have g2 : ∀ z, eset (eset h.2.2.2.1 (n0 + 7) (tC ρ')) I z (n0 + 7) = some (tC ρ') := fun z => by rw [eset_ne (by omega)]; exact f7
          rw [(eg_tC (g2 _)).2]
          simp only
          rw [ep_g (eset_eq) (by simp)]
          simp only [List.set]
          rw [eset2]
          have g3 : egI (eset (eset h.2.2.2.1 (n0 + 7) (tC ρ')) I (.inr (1, [.ref P, .int (ρ' 0), .int (ρ' 1), .int (σ.2 48 i)]))) I 1 3 = some (σ.2 48 i) := by
            unfold egI eg
            rw [eset_eq]
            rfl
          rw [g3]
          simp only
          rw [ep_g (eset_eq) (by simp)]
          simp only [List.set]
          rw [eset2, v1, v2]
          have n46 : σ1.2 46 = σ.2 46 := n2 46 (by decide)
          have n47 : σ1.2 47 = σ.2 47 := n2 47 (by decide)
          have n48 : σ1.2 48 = σ.2 48 := n2 48 (by decide)
          rw [n46, n47, n48, h0]
          refine ⟨0, _, _, rfl, rfl, ⟨len, np, nI, r, rs, T, Ts, g, pg, ig, k9, k10, ?_⟩, Nat.le_refl _, Nat.le_refl _, Nat.le_refl _, by show (σ1.1 1).toNatClampNeg ≤ _; rw [n1 1 (by omega)]; exact Nat.le_refl _⟩
          have hEo : ∀ q, q ≠ n0 + 7 → q ≠ I → eset (eset h.2.2.2.1 (n0 + 7) (tC ρ')) I (iC P (σ1.1 42) (σ1.1 43) (σ.2 48 i + 1)) q = h.2.2.2.1 q := fun q a b => by rw [eset_ne b, f1 q a]
          refine ⟨x1, RC_fr (fun q a b => hEo q (by omega) (by omega)) x2, SC_fr (fun q a b => hEo q (by omega) (by omega)) x3, ⟨⟨ρ', ?_⟩, ?_, ?_⟩, hT5, hF6, ?_, ?_, hS9⟩
          · show eset _ I _ (n0 + 7) = _
            exact g2 _
          · rw [← x4.2.1]
            exact hEo _ (by omega) (by omega)
          · rw [← x4.2.2]
            exact hEo _ (by omega) (by omega)
          · refine RP_fr (σ := σ) (h := h) (fun j hj => n1 j (by omega)) (fun j hj => ?_) rfl (eB_tr (Nat.le_refl _) hbT (eB_set (eN_o g1 (by decide) (by decide)))) (Nat.le_refl _) x7
            show gm_up (gm_up (gm_up _ _ _) _ _) _ _ j = _
            unfold gm_up
            rw [if_neg (by omega), if_neg (by omega), if_neg (by omega)]
            exact n2 j (by omega)
          · exact RI_up (σ := σ) (h := h) (s := σ1.1 42) (o := σ1.1 43) (t := σ.2 48 i + 1) x8 hi e3 e7 e6 h45 eset_eq (fun q a b d => hEo q (by omega) d) (Nat.le_refl _) rfl (n1 44 (by omega)) (n2 45 (by decide)) rfl rfl rfl hwI v3
        · rw [if_neg h0, if_neg h0]
          refine ⟨how, _, _, rfl, rfl, ⟨len, np, nI, r, rs, T, Ts, g, pg, ig, k9, k10, ?_⟩, Nat.le_refl _, Nat.le_refl _, Nat.le_refl _, by show (σ1.1 1).toNatClampNeg ≤ _; rw [n1 1 (by omega)]; exact Nat.le_refl _⟩
          refine ⟨x1, RC_fr (fun q a b => f1 q (by omega)) x2, SC_fr (fun q a b => f1 q (by omega)) x3, ⟨⟨ρ', f7⟩, ?_, ?_⟩, hT5, hF6, ?_, ?_, hS9⟩
          · rw [← x4.2.1]
            exact f1 _ (by omega)
          · rw [← x4.2.2]
            exact f1 _ (by omega)
          · exact RP_fr (σ := σ) (h := h) (fun j hj => n1 j (by omega)) (fun j hj => n2 j (by omega)) rfl hbT (Nat.le_refl _) x7
          · obtain ⟨q1, q2, q3, q4, q5⟩ := x8
            refine ⟨(n1 44 (by omega)).trans q1, q2, q3, fun j hj => ?_, q5⟩
            obtain ⟨I', k', P', u1, u2, u3, u4, u5, u6, u7, u8⟩ := q4 j hj
            rw [n2 45 (by decide), n2 46 (by decide), n2 47 (by decide), n2 48 (by decide)]
            exact ⟨I', k', P', u1, u2, u3, u4, u5, u6, (f1 I' (by omega)).trans u7, by rw [hwI]; exact u8⟩
      · rw [if_neg (fun z => hs ((shr_sub (by omega) hw).mp z)), if_neg hs, if_pos rfl]
        exact hA rfl rfl
  · rw [e1, e2]
    exact OK_0 rfl rfl hR'
end R4
