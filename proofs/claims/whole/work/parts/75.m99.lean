section R8
variable {n0 len np nI lim hi : Nat} {r rs : Nat → Int32} {T Ts : Nat → Nat → Int32} {g pg ig : Nat → Option Nat} {k9 k10 : Option Nat} {σ σ' : gm_S} {h h' : ck_S} {E E' : ck_E}
theorem most_r {v : Int32} (h : ¬ q_in v 1 300 = 0) : ∃ M, v = Int32.ofNat M ∧ 1 ≤ M ∧ M ≤ 300 := by
  unfold q_in at h
  by_cases h1 : v < 1
  · rw [if_pos h1] at h
    exact absurd rfl h
  · rw [if_neg h1] at h
    by_cases h2 : 300 < v
    · rw [if_pos h2] at h
      exact absurd rfl h
    · have hw0 : ¬ (v < 0) := fun e => h1 (by
        rw [Int32.lt_iff_toInt_lt] at e ⊢
        have : (0 : Int32).toInt = 0 := rfl
        have : (1 : Int32).toInt = 1 := rfl
        omega)
      obtain ⟨n, rfl, hn⟩ := i32_nat hw0
      refine ⟨n, rfl, ?_, ?_⟩
      · rcases Nat.lt_or_ge n 1 with e | e
        · exact absurd ((lt_N (b := 1) hn (by decide)).mpr e) h1
        · exact e
      · rcases Nat.lt_or_ge 300 n with e | e
        · exact absurd ((lt_N (a := 300) (by decide) hn).mpr e) h2
        · exact e
theorem what_r {v : Int32} {no : Nat} (h1 : 1 ≤ no) (h26 : no ≤ 26) : (q_in v (-1) (Int32.ofNat no - 1) = 0 ↔ (v < -1 ∨ Int32.ofNat no ≤ v)) ∧ (¬ (v < -1) → ¬ (Int32.ofNat no ≤ v) → v = -1 ∨ ∃ w, w < 26 ∧ v = Int32.ofNat w) := by
  have key : ¬ (v < -1) → v = -1 ∨ ∃ k, v = Int32.ofNat k ∧ k < 2147483648 := by
    intro hn
    by_cases h0 : v < 0
    · left
      apply Int32.toInt_inj.mp
      rw [Int32.lt_iff_toInt_lt] at hn h0
      have : (0 : Int32).toInt = 0 := rfl
      have e : (-1 : Int32).toInt = -1 := rfl
      rw [e] at hn ⊢
      omega
    · exact Or.inr (i32_nat h0)
  have e1 : ¬ (Int32.ofNat no ≤ -1) := fun e => by
    rw [Int32.le_iff_toInt_le, Int32.toInt_ofNat_of_lt (by omega)] at e
    have : (-1 : Int32).toInt = -1 := rfl
    omega
  have e2 : ¬ (Int32.ofNat (no - 1) < -1) := fun e => by
    rw [Int32.lt_iff_toInt_lt, Int32.toInt_ofNat_of_lt (by omega)] at e
    have : (-1 : Int32).toInt = -1 := rfl
    omega
  constructor
  · unfold q_in
    rw [sb2 h1]
    by_cases hv : v < -1
    · rw [if_pos hv]
      exact ⟨fun _ => Or.inl hv, fun _ => rfl⟩
    · rw [if_neg hv]
      rcases key hv with rfl | ⟨k, rfl, hk⟩
      · rw [if_neg e2]
        exact ⟨fun e => absurd e (by decide), fun e => e.elim (fun e => absurd e hv) (fun e => absurd e e1)⟩
      · by_cases hl : no - 1 < k
        · rw [if_pos ((lt_N (by omega) hk).mpr hl)]
          exact ⟨fun _ => Or.inr ((le_N (by omega) hk).mpr (by omega)), fun _ => rfl⟩
        · rw [if_neg (fun e => hl ((lt_N (by omega) hk).mp e))]
          exact ⟨fun e => absurd e (by decide), fun e => e.elim (fun e => absurd e hv) (fun e => by have := (le_N (by omega) hk).mp e; omega)⟩
  · intro hv hl
    rcases key hv with e | ⟨k, rfl, hk⟩
    · exact Or.inl e
    · refine Or.inr ⟨k, ?_, rfl⟩
      rcases Nat.lt_or_ge k no with e | e
      · omega
      · exact absurd ((le_N (by omega) hk).mpr e) hl
theorem search_k {v w m : Int32} (hR : REL n0 σ h) : OK n0 0 0 0 σ h (sp_Md_search v w m σ) (sp_H_search v w m h) := by
  have hR' : REL n0 (upd σ.1 0 0, σ.2) h := hR
  obtain ⟨len, np, nI, r, rs, T, Ts, g, pg, ig, k9, k10, hx⟩ := hR
  have hx' : RX n0 len np nI r rs T Ts g pg ig k9 k10 (upd σ.1 0 0, σ.2) h := hx
  obtain ⟨x1, x2, x3, x4, x5, x6, x7, x8, x9⟩ := hx
  have x7' : RP n0 np pg (upd σ.1 0 0, σ.2) h := x7
  have hn6 := x7.2.1
  have heo : eo h.2.2.2.1 (n0 + 8) 5 = true := by
    unfold eo
    rw [x3.1]
    rfl
  unfold sp_Md_search sp_H_search
  rcases prA (v := v) x1 x4 x7' with ⟨k, P, e, hk, e1, e2, e3, e4⟩ | ⟨e1, e2⟩
  · rw [e1, e2]
    simp only
    have e4' := e4
    obtain ⟨ni, no, li, lo, β, Γ, a, n, x, pa, fp, ⟨p1, p2, p3, p4, p5, p6, p7, p8, p9, p10, p11, p12, p13, p14, p15, p16, p17, p18, p19⟩, _⟩ := e4
    have hni : σ.2 12 k = Int32.ofNat ni := p1.2.1
    have hno : σ.2 14 k = Int32.ofNat no := p1.2.2.1
    have h26 := p1.2.2.2.1
    rw [p6, p7, e, if_neg (by decide), if_pos (gi_of (by omega : k < 7) (by decide)), cl_of (by omega), hni, hno]
    simp only
    obtain ⟨w1, w2⟩ := what_r (v := w) (no := no) p19.1 (by omega)
    by_cases h4 : ni ≤ 4
    · rw [if_neg (show ¬ ((4 : Int32) < Int32.ofNat ni) from fun e => by have := (lt_N (a := 4) (by decide) (by omega)).mp e; omega), if_pos (show Int32.ofNat ni ≤ 4 from (le_N (b := 4) (by omega) (by decide)).mpr h4)]
      by_cases hw1 : w < -1
      · rw [if_pos hw1, if_pos (w1.mpr (Or.inl hw1))]
        exact OK_0 rfl rfl hR'
      · rw [if_neg hw1]
        by_cases hw2 : Int32.ofNat no ≤ w
        · rw [if_pos hw2, if_pos (w1.mpr (Or.inr hw2))]
          exact OK_0 rfl rfl hR'
        · rw [if_neg hw2, if_neg (fun e => (w1.mp e).elim hw1 hw2)]
          have hq : q_H_isMost m = q_in m 1 300 := rfl
          rw [hq]
          by_cases hm : q_in m 1 300 = 0
          · rw [if_pos hm, if_pos hm]
            exact OK_0 rfl rfl hR'
          · obtain ⟨M, rfl, m1, m2⟩ := most_r hm
            rw [if_neg hm, if_neg hm, x1.2.2.1]
            simp only
            rw [if_pos heo]
            obtain ⟨a, σ', h', r1, r2, r3, r4, r5⟩ := seek_j (tw := false) (k2 := 0) (P2 := 0) hx' (by omega : k < 6) e4' (fun e => by cases e) hni h4 m2 m1 (w2 hw1 hw2) (fun e => by cases e)
            have r1' : sp_Md_seek (Int32.ofNat k) w (-1) (Int32.ofNat M) (upd σ.1 0 0, σ.2) = some (a, σ') := r1
            have r2' : sp_in sk_K (n0 + 8) (sp_Sk_seek (some P) none w (Int32.ofNat M)) h = some (a, h') := r2
            rw [r1', r2']
            exact ⟨a, σ', h', rfl, rfl, r3, by rw [r4]; exact Nat.le_refl _, by rw [r4]; exact Nat.le_refl _, by rw [r4]; exact Nat.le_refl _, by show (σ'.1 1).toNatClampNeg ≤ _; rw [r5]; exact Nat.le_refl _⟩
    · rw [if_pos (show (4 : Int32) < Int32.ofNat ni from (lt_N (a := 4) (by decide) (by omega)).mpr (by omega)), if_neg (show ¬ (Int32.ofNat ni ≤ 4) from fun e => h4 ((le_N (b := 4) (by omega) (by decide)).mp e))]
      exact OK_0 rfl rfl hR'
  · rw [e1, e2]
    exact OK_0 rfl rfl hR'
theorem differ_k {v w m : Int32} (hR : REL n0 σ h) : OK n0 0 0 0 σ h (sp_Md_differ v w m σ) (sp_H_differ v w m h) := by
  have hR' : REL n0 (upd σ.1 0 0, σ.2) h := hR
  obtain ⟨len, np, nI, r, rs, T, Ts, g, pg, ig, k9, k10, hx⟩ := hR
  have hx' : RX n0 len np nI r rs T Ts g pg ig k9 k10 (upd σ.1 0 0, σ.2) h := hx
  obtain ⟨x1, x2, x3, x4, x5, x6, x7, x8, x9⟩ := hx
  have x7' : RP n0 np pg (upd σ.1 0 0, σ.2) h := x7
  have hn6 := x7.2.1
  have heo : eo h.2.2.2.1 (n0 + 8) 5 = true := by
    unfold eo
    rw [x3.1]
    rfl
  unfold sp_Md_differ sp_H_differ
  rcases prA (v := v) x1 x4 x7' with ⟨k, P, e, hk, e1, e2, e3, e4⟩ | ⟨e1, e2⟩
  · rw [e1, e2]
    simp only
    rw [if_neg (by decide)]
    rcases prA (v := w) x1 x4 x7' with ⟨k2, P2, d, hk2, d1, d2, d3, d4⟩ | ⟨d1, d2⟩
    · rw [d1, d2]
      simp only
      have e4' := e4
      have d4' := d4
      obtain ⟨ni, no, li, lo, β, Γ, a, n, x, pa, fp, ⟨p1, p2, p3, p4, p5, p6, p7, _⟩, _⟩ := e4
      obtain ⟨ni2, no2, li2, lo2, β2, Γ2, a2, n2, x2', pa2, fp2, ⟨t1, t2, t3, t4, t5, t6, t7, _⟩, _⟩ := d4
      have hni : σ.2 12 k = Int32.ofNat ni := p1.2.1
      have hno : σ.2 14 k = Int32.ofNat no := p1.2.2.1
      have h26 := p1.2.2.2.1
      have hni2 : σ.2 12 k2 = Int32.ofNat ni2 := t1.2.1
      have hno2 : σ.2 14 k2 = Int32.ofNat no2 := t1.2.2.1
      have h262 := t1.2.2.2.1
      rw [p6, p7, t6, t7, e, d, if_neg (by decide), if_pos (gi_of (by omega : k < 7) (by decide)), if_pos (gi_of (by omega : k2 < 7) (by decide)), cl_of (by omega), cl_of (by omega), hni, hno, hni2, hno2]
      simp only
      by_cases h4 : ni ≤ 4
      · rw [if_neg (show ¬ ((4 : Int32) < Int32.ofNat ni) from fun e => by have := (lt_N (a := 4) (by decide) (by omega)).mp e; omega), if_pos (show Int32.ofNat ni ≤ 4 from (le_N (b := 4) (by omega) (by decide)).mpr h4)]
        by_cases hi : Int32.ofNat ni = Int32.ofNat ni2
        · rw [if_pos hi, if_pos hi]
          by_cases ho : Int32.ofNat no = Int32.ofNat no2
          · rw [if_pos ho, if_pos ho]
            have hq : q_H_isMost m = q_in m 1 300 := rfl
            rw [hq]
            by_cases hm : q_in m 1 300 = 0
            · rw [if_pos hm, if_pos hm]
              exact OK_0 rfl rfl hR'
            · obtain ⟨M, rfl, m1, m2⟩ := most_r hm
              rw [if_neg hm, if_neg hm, x1.2.2.1]
              simp only
              rw [if_pos heo]
              obtain ⟨a, σ', h', r1, r2, r3, r4, r5⟩ := seek_j (tw := true) (what := -1) hx' (by omega : k < 6) e4' (fun _ => ⟨by omega, d4', by rw [hi]; exact hni2⟩) hni h4 m2 m1 (Or.inl rfl) (fun _ => rfl)
              have r1' : sp_Md_seek (Int32.ofNat k) (-1) (Int32.ofNat k2) (Int32.ofNat M) (upd σ.1 0 0, σ.2) = some (a, σ') := r1
              have r2' : sp_in sk_K (n0 + 8) (sp_Sk_seek (some P) (some P2) (-1) (Int32.ofNat M)) h = some (a, h') := r2
              rw [r1', r2']
              exact ⟨a, σ', h', rfl, rfl, r3, by rw [r4]; exact Nat.le_refl _, by rw [r4]; exact Nat.le_refl _, by rw [r4]; exact Nat.le_refl _, by show (σ'.1 1).toNatClampNeg ≤ _; rw [r5]; exact Nat.le_refl _⟩
          · rw [if_neg ho, if_neg ho]
            exact OK_0 rfl rfl hR'
        · rw [if_neg hi, if_neg hi]
          exact OK_0 rfl rfl hR'
      · rw [if_pos (show (4 : Int32) < Int32.ofNat ni from (lt_N (a := 4) (by decide) (by omega)).mpr (by omega)), if_neg (show ¬ (Int32.ofNat ni ≤ 4) from fun e => h4 ((le_N (b := 4) (by omega) (by decide)).mp e))]
        exact OK_0 rfl rfl hR'
    · rw [d1, d2]
      exact OK_0 rfl rfl hR'
  · have hd : ∃ z, sp_H_programAt w h = some (z, h) := by
      rcases prA (v := w) x1 x4 x7' with ⟨k2, P2, d, hk2, d1, d2, d3, d4⟩ | ⟨d1, d2⟩
      · exact ⟨_, d2⟩
      · exact ⟨_, d2⟩
    obtain ⟨z, hz⟩ := hd
    rw [e1, e2]
    simp only
    rw [hz]
    exact OK_0 rfl rfl hR'
end R8
