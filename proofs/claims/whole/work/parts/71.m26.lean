section C2
variable {σ : gm_S} {S : Int32} {k : Nat}
theorem cs_65 {kk : Int32 → Int32 → Int32 → gm_S → Option (Int32 × gm_S)} {v1 v3 : Int32} : ∀ (ks : List (Int32 × Nat)) (q : Int32) (m c0 : Nat), chT σ.2 ks q → ks.length < m → c0 + ks.length < 10000 → sp_Md_canStand_65 kk m v1 S v3 (Int32.ofNat c0) q σ = if c0 + cn σ.2 S ks ≤ 1 then kk v1 S (v3 + 1) σ else some (0, σ) := by
  intro ks
  induction ks with
  | nil =>
    intro q m c0 h hm hc
    obtain ⟨m, rfl⟩ : ∃ j, m = j + 1 := ⟨m - 1, by simp at hm; omega⟩
    unfold sp_Md_canStand_65
    have hq : q = -1 := h
    rw [if_pos hq]
    show _ = if c0 + 0 ≤ 1 then _ else _
    rw [show (1 : Int32) = Int32.ofNat 1 from rfl]
    by_cases h1 : c0 ≤ 1
    · rw [if_pos ((le_N (by omega) (by decide)).mpr h1), if_pos (by omega)]
    · rw [if_neg (fun e => h1 ((le_N (by simp at hc; omega) (by decide)).mp e)), if_neg (by omega)]
  | cons x xs ih =>
    intro q m c0 h hm hc
    obtain ⟨m, rfl⟩ : ∃ j, m = j + 1 := ⟨m - 1, by simp at hm; omega⟩
    obtain ⟨h1, h2, h3⟩ := h
    have hn1 := gi_n1 h2
    unfold sp_Md_canStand_65
    rw [h1, if_neg hn1, if_pos h2]
    have hcn : cn σ.2 S (x :: xs) = (if σ.2 25 x.1.toNatClampNeg &&& S = 0 then 0 else 1) + cn σ.2 S xs := rfl
    simp only [List.length_cons] at hm hc
    by_cases hw : σ.2 25 x.1.toNatClampNeg &&& S = 0
    · rw [if_pos hw]
      have := ih _ m c0 h3 (by omega) (by omega)
      rw [show Int32.ofNat c0 + 0 = Int32.ofNat c0 from Int32.add_zero _, this, hcn, if_pos hw, Nat.zero_add]
    · rw [if_neg hw, ofN_s]
      have := ih _ m (c0 + 1) h3 (by omega) (by omega)
      rw [this, hcn, if_neg hw]
      have : c0 + 1 + cn σ.2 S xs = c0 + (1 + cn σ.2 S xs) := by omega
      rw [this]
theorem ip_eq {f0 f1 q : Nat} (hk : k < 6) (h0 : σ.2 49 k = Int32.ofNat f0) (h1 : σ.2 49 (k + 1) = Int32.ofNat f1) (hq : q < 10000) (hf0 : f0 < 10000) (hf1 : f1 < 10000) : sp_Md_isPart (Int32.ofNat k) (Int32.ofNat q) σ = some (if f0 ≤ q ∧ q < f1 then 1 else 0, σ) := by
  unfold sp_Md_isPart
  rw [if_pos (gi_of (by omega : k < 8) (by decide)), cl_of (by omega), h0, ofN_s, if_pos (gi_of (by omega : k + 1 < 8) (by decide)), cl_of (by omega), h1]
  by_cases a : q < f0
  · rw [if_pos ((lt_N (by omega) (by omega)).mpr a), if_neg (by omega)]
  · rw [if_neg (fun e => a ((lt_N (by omega) (by omega)).mp e))]
    by_cases b : f1 ≤ q
    · rw [if_pos ((le_N (by omega) (by omega)).mpr b), if_neg (by omega)]
    · rw [if_neg (fun e => b ((le_N (by omega) (by omega)).mp e)), if_pos (by omega)]
theorem cs_2 {f0 f1 pt : Nat} (hk : k < 6) (h0 : σ.2 49 k = Int32.ofNat f0) (h1 : σ.2 49 (k + 1) = Int32.ofNat f1) (h19 : σ.1 19 = Int32.ofNat pt) (hpt : pt ≤ 2600) (hf1 : f1 ≤ pt) (hf0 : f0 < 10000) (hks : ∀ q, f0 ≤ q → q < f1 → ∃ ks, chT σ.2 ks (σ.2 23 q) ∧ ks.length ≤ 2600) : ∀ (m q : Nat), q ≤ pt → pt - q < m →
    ((∀ q', q ≤ q' → f0 ≤ q' → q' < f1 → okp σ.2 S q') → sp_Md_canStand_2 m (Int32.ofNat k) S (Int32.ofNat q) σ = some (1, σ)) ∧ (¬ (∀ q', q ≤ q' → f0 ≤ q' → q' < f1 → okp σ.2 S q') → sp_Md_canStand_2 m (Int32.ofNat k) S (Int32.ofNat q) σ = some (0, σ)) := by
  intro m
  induction m with
  | zero => intro q _ h; omega
  | succ m ih =>
    intro q hq hm
    by_cases hqe : q = pt
    · refine ⟨fun _ => ?_, fun h => absurd (fun q' a1 a2 a3 => by omega) h⟩
      unfold sp_Md_canStand_2
      rw [h19, hqe, if_pos ((le_N (by omega) (by omega)).mpr (Nat.le_refl _))]
    · have hlt : q < pt := by omega
      obtain ⟨i1, i2⟩ := ih (q + 1) (by omega) (by omega)
      have hskip : (f0 ≤ q → q < f1 → okp σ.2 S q) → sp_Md_canStand_2 (m + 1) (Int32.ofNat k) S (Int32.ofNat q) σ = sp_Md_canStand_2 m (Int32.ofNat k) S (Int32.ofNat (q + 1)) σ → ((∀ q', q ≤ q' → f0 ≤ q' → q' < f1 → okp σ.2 S q') → sp_Md_canStand_2 (m + 1) (Int32.ofNat k) S (Int32.ofNat q) σ = some (1, σ)) ∧ (¬ (∀ q', q ≤ q' → f0 ≤ q' → q' < f1 → okp σ.2 S q') → sp_Md_canStand_2 (m + 1) (Int32.ofNat k) S (Int32.ofNat q) σ = some (0, σ)) := by
        intro hok he
        rw [he]
        refine ⟨fun h => i1 (fun q' a1 a2 a3 => h q' (by omega) a2 a3), fun h => i2 (fun e => h (fun q' a1 a2 a3 => ?_))⟩
        by_cases e' : q' = q
        · rw [e']; rw [e'] at a2 a3; exact hok a2 a3
        · exact e q' (by omega) a2 a3
      have hb : ¬ (σ.1 19 ≤ Int32.ofNat q) := by
        rw [h19]
        intro e
        have := (le_N (by omega) (by omega)).mp e
        omega
      by_cases hop : σ.2 20 q = 9 ∨ σ.2 20 q = 3
      · by_cases hw : σ.2 25 q &&& S = 0
        · refine hskip (fun _ _ _ h => absurd hw h) ?_
          conv => lhs; unfold sp_Md_canStand_2
          rw [if_neg hb, if_pos (gi_of (by omega : q < 2600) (by decide)), cl_of (by omega), ofN_s]
          rcases hop with e | e
          · rw [if_pos e, if_pos hw]
          · rw [if_neg (by rw [e]; decide), if_pos e, if_pos hw]
        · have hip := ip_eq (σ := σ) (q := q) hk h0 h1 (by omega) hf0 (by omega)
          by_cases hin : f0 ≤ q ∧ q < f1
          · obtain ⟨ks, hks1, hks2⟩ := hks q hin.1 hin.2
            have h65 := cs_65 (σ := σ) (S := S) (kk := sp_Md_canStand_2 m) (v1 := Int32.ofNat k) (v3 := Int32.ofNat q) ks _ 2601 0 hks1 (by omega) (by omega)
            have hstep : sp_Md_canStand_2 (m + 1) (Int32.ofNat k) S (Int32.ofNat q) σ = (if cn σ.2 S ks ≤ 1 then sp_Md_canStand_2 m (Int32.ofNat k) S (Int32.ofNat (q + 1)) σ else some (0, σ)) := by
              conv => lhs; unfold sp_Md_canStand_2
              rw [if_neg hb, if_pos (gi_of (by omega : q < 2600) (by decide)), cl_of (by omega), ofN_s]
              have hfin : (match sp_Md_isPart (Int32.ofNat k) (Int32.ofNat q) σ with
                  | none => none
                  | some y5 => (if y5.1 = 0 then sp_Md_canStand_2 m (Int32.ofNat k) S (Int32.ofNat (q + 1)) y5.2 else sp_Md_canStand_65 (sp_Md_canStand_2 m) 2601 (Int32.ofNat k) S (Int32.ofNat q) 0 ((y5.2.2 23) q) y5.2)) = (if cn σ.2 S ks ≤ 1 then sp_Md_canStand_2 m (Int32.ofNat k) S (Int32.ofNat (q + 1)) σ else some (0, σ)) := by
                rw [hip, if_pos hin]
                simp only
                rw [if_neg (by decide)]
                rw [Nat.zero_add, ofN_s] at h65
                exact h65
              rcases hop with e | e
              · rw [if_pos e, if_neg hw]; exact hfin
              · rw [if_neg (by rw [e]; decide), if_pos e, if_neg hw]; exact hfin
            by_cases hc : cn σ.2 S ks ≤ 1
            · refine hskip (fun _ _ _ _ ks' hks' => ?_) ?_
              · rw [chT_cn ks' ks _ hks' hks1]; exact hc
              · rw [hstep, if_pos hc]
            · rw [hstep, if_neg hc]
              refine ⟨fun h => absurd (h q (Nat.le_refl _) hin.1 hin.2 hop hw ks hks1) hc, fun _ => rfl⟩
          · refine hskip (fun a1 a2 => absurd ⟨a1, a2⟩ hin) ?_
            conv => lhs; unfold sp_Md_canStand_2
            rw [if_neg hb, if_pos (gi_of (by omega : q < 2600) (by decide)), cl_of (by omega), ofN_s, hip, if_neg hin]
            simp only
            rw [if_pos trivial]
            rcases hop with e | e
            · rw [if_pos e, if_neg hw]
            · rw [if_neg (by rw [e]; decide), if_pos e, if_neg hw]
      · refine hskip (fun _ _ h => absurd h hop) ?_
        conv => lhs; unfold sp_Md_canStand_2
        rw [if_neg hb, if_pos (gi_of (by omega : q < 2600) (by decide)), cl_of (by omega), ofN_s, if_neg (fun e => hop (Or.inl e)), if_neg (fun e => hop (Or.inr e))]
end C2
