section Q1
variable {n0 len np nI lim hi sz : Nat} {r rs : Nat → Int32} {T Ts : Nat → Nat → Int32} {g pg ig : Nat → Option Nat} {k9 k10 : Option Nat} {σ σ' : gm_S} {h h' : ck_S} {E E' : ck_E}
theorem copy_r {L : Nat → Nat → gm_S → Option (Int32 × gm_S)} {dst src : Nat} (hne : src ≠ dst) (hs : ∀ m i (σ : gm_S), σ.1 3 = Int32.ofNat sz → i < sz → L (m + 1) i σ = L m (i + 1) (σ.1, gm_up σ.2 dst (upd (σ.2 dst) i (σ.2 src i)))) : ∀ (d i m : Nat) (σ : gm_S), σ.1 3 = Int32.ofNat sz → i + d = sz → d < m → ∃ m2 f, L m i σ = L (m2 + 1) sz (σ.1, gm_up σ.2 dst f) ∧ (∀ j, i ≤ j → j < sz → f j = σ.2 src j) ∧ (∀ j, j < i → f j = σ.2 dst j) := by
  intro d
  induction d with
  | zero =>
    intro i m σ h3 hi hm
    obtain ⟨m, rfl⟩ : ∃ j, m = j + 1 := ⟨m - 1, by omega⟩
    have : i = sz := by omega
    subst this
    refine ⟨m, σ.2 dst, ?_, fun j h1 h2 => by omega, fun j _ => rfl⟩
    rw [gm_upI]
  | succ d ih =>
    intro i m σ h3 hi hm
    obtain ⟨m, rfl⟩ : ∃ j, m = j + 1 := ⟨m - 1, by omega⟩
    obtain ⟨m2, f, f1, f2, f3⟩ := ih (i + 1) m (σ.1, gm_up σ.2 dst (upd (σ.2 dst) i (σ.2 src i))) h3 (by omega) (by omega)
    refine ⟨m2, f, ?_, fun j h1 h2 => ?_, fun j hj => ?_⟩
    · rw [hs m i σ h3 (by omega), f1]
      show L (m2 + 1) sz (σ.1, gm_up (gm_up σ.2 dst _) dst f) = _
      rw [gm_up2]
    · by_cases e : j = i
      · rw [f3 j (by omega)]
        show gm_up σ.2 dst (upd (σ.2 dst) i (σ.2 src i)) dst j = _
        unfold gm_up
        rw [if_pos rfl, e, upd_eq]
      · rw [f2 j (by omega) h2]
        show gm_up σ.2 dst (upd (σ.2 dst) i (σ.2 src i)) src j = _
        unfold gm_up
        rw [if_neg hne]
    · rw [f3 j (by omega)]
      show gm_up σ.2 dst (upd (σ.2 dst) i (σ.2 src i)) dst j = _
      unfold gm_up
      rw [if_pos rfl, upd_ne (by omega)]
theorem s10 (hz : sz ≤ 500) : ∀ m i (σ : gm_S), σ.1 3 = Int32.ofNat sz → i < sz → sp_Md_module_10 (m + 1) (Int32.ofNat i) σ = sp_Md_module_10 m (Int32.ofNat (i + 1)) (σ.1, gm_up σ.2 4 (upd (σ.2 4) i (σ.2 2 i))) := by
  intro m i σ h3 hi
  rw [sp_Md_module_10, h3, if_neg (fun e => by have := (le_N (by omega) (by omega)).mp e; omega), if_pos (gi_of (by omega) (by decide)), cl_of (by omega), ofN_s]
theorem s156 {v : Int32} (hz : sz ≤ 500) : ∀ m i (σ : gm_S), σ.1 3 = Int32.ofNat sz → i < sz → sp_Md_module_156 (m + 1) v (Int32.ofNat i) σ = sp_Md_module_156 m v (Int32.ofNat (i + 1)) (σ.1, gm_up σ.2 4 (upd (σ.2 4) i (σ.2 6 i))) := by
  intro m i σ h3 hi
  rw [sp_Md_module_156, h3, if_neg (fun e => by have := (le_N (by omega) (by omega)).mp e; omega), if_pos (gi_of (by omega) (by decide)), cl_of (by omega), ofN_s]
theorem s110 {v : Int32} (hz : sz ≤ 500) : ∀ m i (σ : gm_S), σ.1 3 = Int32.ofNat sz → i < sz → sp_Md_module_110 (m + 1) v (Int32.ofNat i) σ = sp_Md_module_110 m v (Int32.ofNat (i + 1)) (σ.1, gm_up σ.2 6 (upd (σ.2 6) i (σ.2 4 i))) := by
  intro m i σ h3 hi
  rw [sp_Md_module_110, h3, if_neg (fun e => by have := (le_N (by omega) (by omega)).mp e; omega), if_pos (gi_of (by omega) (by decide)), cl_of (by omega), ofN_s]
theorem fk_cg {c d : ck_S} {k : Int32} (he : d.2.1 2 = c.2.1 2) : ∀ (m : Nat) (v : Int32), sp_Rd_faultKind_2 m v c = some (k, c) → sp_Rd_faultKind_2 m v d = some (k, d) := by
  intro m
  induction m with
  | zero => intro v e; cases e
  | succ m ih =>
    intro v e
    rw [sp_Rd_faultKind_2] at e ⊢
    rw [he]
    by_cases h4 : 4 < v
    · rw [if_pos h4] at e ⊢
      cases e
      rfl
    · rw [if_neg h4] at e ⊢
      by_cases hg : gi v 5 = true
      · rw [if_pos hg] at e ⊢
        by_cases h5 : c.2.1 2 v.toNatClampNeg = 501
        · rw [if_pos h5] at e ⊢
          exact ih _ e
        · rw [if_neg h5] at e ⊢
          cases e
          rfl
      · rw [if_neg hg] at e
        cases e
theorem FK_cg {c d : ck_S} {k p : Int32} (he : d.2.1 2 = c.2.1 2) (h : FK c k p) : FK d k p := by
  have e1 : sp_Rd_faultKind d = some (k, d) := fk_cg he _ _ h.1
  refine ⟨e1, ?_⟩
  have e2 := h.2
  unfold sp_Rd_faultPlace at e2 ⊢
  rw [h.1] at e2
  rw [e1]
  simp only at e2 ⊢
  by_cases h0 : k = 0
  · rw [if_pos h0] at e2 ⊢
    cases e2
    rfl
  · rw [if_neg h0] at e2 ⊢
    by_cases hg : gi k 5 = true
    · rw [if_pos hg] at e2 ⊢
      rw [he]
      cases e2
      rfl
    · rw [if_neg hg] at e2
      cases e2
theorem lay49 {n : Nat} (hn : n ≤ 6) : ∀ (d i m : Nat) (h : ck_S) (pg : Nat → Option Nat), i + d = 6 → d < m → h.2.2.1 0 = some n0 → h.2.2.1 3 = some (n0 + 15) → h.2.2.2.1 (n0 + 15) = some (.inl (4, 6, .inr (.inr (.inr (.inr pg))))) → h.2.2.2.1 (n0 + 1) = some (.inl (4, 6, .inr (.inr (.inr (.inr g))))) → egR h.2.2.2.1 n0 4 0 = some (some (n0 + 1)) → (∀ k, k < n → ∃ P, g k = some P ∧ eo h.2.2.2.1 P 3 = true) → ∃ pg', sp_H_module_49 m (Int32.ofNat n) (Int32.ofNat i) h = some (Int32.ofNat n, (upd (upd h.1 5 (Int32.ofNat n)) 6 0, h.2.1, h.2.2.1, eset h.2.2.2.1 (n0 + 15) (.inl (4, 6, .inr (.inr (.inr (.inr pg'))))), h.2.2.2.2.1, h.2.2.2.2.2)) ∧ (∀ j, j < i → pg' j = pg j) ∧ (∀ j, i ≤ j → j < n → pg' j = g j) := by
  intro d
  induction d with
  | zero =>
    intro i m h pg hi hm h0 h3 hp hb hr he
    obtain ⟨m, rfl⟩ : ∃ j, m = j + 1 := ⟨m - 1, by omega⟩
    have : i = 6 := by omega
    subst this
    refine ⟨pg, ?_, fun _ _ => rfl, fun j _ _ => by omega⟩
    rw [sp_H_module_49, if_pos (by decide)]
    have : eset h.2.2.2.1 (n0 + 15) (.inl (4, 6, .inr (.inr (.inr (.inr pg))))) = h.2.2.2.1 := by
      funext q
      unfold eset
      by_cases e : q = n0 + 15
      · rw [if_pos e, e]; exact hp.symm
      · rw [if_neg e]
    rw [this]
  | succ d ih =>
    intro i m h pg hi hm h0 h3 hp hb hr he
    obtain ⟨m, rfl⟩ : ∃ j, m = j + 1 := ⟨m - 1, by omega⟩
    have step : ∀ x : Option Nat, (x = none ∨ ∃ P, x = some P ∧ eo h.2.2.2.1 P 3 = true) → es h.2.2.2.1 (n0 + 15) 4 3 (Int32.ofNat i) x = some (eset h.2.2.2.1 (n0 + 15) (.inl (4, 6, .inr (.inr (.inr (.inr (va_up pg i x))))))) := by
      intro x hx
      unfold es
      rw [hp]
      simp only
      rw [if_pos trivial, if_pos (gi_of (by omega) (by decide)), cl_of (by omega)]
      rcases hx with rfl | ⟨P, rfl, hP⟩
      · rfl
      · simp only
        rw [if_pos hP]
    have go : ∀ x : Option Nat, (x = none ∨ ∃ P, x = some P ∧ eo h.2.2.2.1 P 3 = true) → (i < n → x = g i) → ∃ pg', sp_H_module_49 m (Int32.ofNat n) (Int32.ofNat (i + 1)) (h.1, h.2.1, h.2.2.1, eset h.2.2.2.1 (n0 + 15) (.inl (4, 6, .inr (.inr (.inr (.inr (va_up pg i x)))))), h.2.2.2.2.1, h.2.2.2.2.2) = some (Int32.ofNat n, (upd (upd h.1 5 (Int32.ofNat n)) 6 0, h.2.1, h.2.2.1, eset h.2.2.2.1 (n0 + 15) (.inl (4, 6, .inr (.inr (.inr (.inr pg'))))), h.2.2.2.2.1, h.2.2.2.2.2)) ∧ (∀ j, j < i → pg' j = pg j) ∧ (∀ j, i ≤ j → j < n → pg' j = g j) := by
      intro x hx hgi
      have hne : n0 ≠ n0 + 15 := by omega
      obtain ⟨pg', r1, r2, r3⟩ := ih (i + 1) m (h.1, h.2.1, h.2.2.1, eset h.2.2.2.1 (n0 + 15) (.inl (4, 6, .inr (.inr (.inr (.inr (va_up pg i x)))))), h.2.2.2.2.1, h.2.2.2.2.2) (va_up pg i x) (by omega) (by omega) h0 h3 eset_eq ((eset_ne (by omega)).trans hb) (by
        show egR (eset _ _ _) n0 4 0 = _
        rw [egR_e (eg_E (eset_ne hne))]
        exact hr) (fun k hk => by
        obtain ⟨P, q1, q2⟩ := he k hk
        refine ⟨P, q1, ?_⟩
        show eo (eset _ _ _) P 3 = true
        have : P ≠ n0 + 15 := fun e => by
          unfold eo at q2
          rw [e, hp] at q2
          cases q2
        unfold eo
        rw [eset_ne this]
        exact q2)
      refine ⟨pg', ?_, fun j hj => ?_, fun j h1 h2 => ?_⟩
      · rw [r1]
        show some (_, (_, _, _, eset (eset _ _ _) _ _, _, _)) = _
        rw [eset2]
      · rw [r2 j (by omega), vu_ne (by omega)]
      · by_cases e : j = i
        · rw [e, r2 i (by omega), vu_eq]
          exact hgi (by omega)
        · exact r3 j (by omega) h2
    rw [sp_H_module_49, if_neg (show ¬ ((6 : Int32) ≤ Int32.ofNat i) from fun e => by have := (le_N (a := 6) (by decide) (by omega)).mp e; omega)]
    by_cases hin : n ≤ i
    · rw [if_pos ((le_N (by omega) (by omega)).mpr hin), h3]
      simp only
      rw [step none (Or.inl rfl), ofN_s]
      exact go none (Or.inl rfl) (fun e => by omega)
    · obtain ⟨P, q1, q2⟩ := he i (by omega)
      have her : er h.2.2.2.1 (n0 + 1) 4 (Int32.ofNat i) = some (some P) := by
        unfold er
        rw [hb]
        simp only
        rw [if_pos trivial, if_pos (gi_of (by omega) (by decide)), cl_of (by omega), q1]
      rw [if_neg (fun e => hin ((le_N (by omega) (by omega)).mp e)), h0]
      simp only
      rw [hr]
      simp only
      rw [her]
      simp only
      rw [h3]
      simp only
      rw [step (some P) (Or.inr ⟨P, rfl, q2⟩), ofN_s]
      exact go (some P) (Or.inr ⟨P, rfl, q2⟩) (fun _ => q1.symm)
theorem wI_E {A A' : Nat → Nat → Int32} {k P : Nat} (h : zPX lim hi A E k P) (h' : zPX lim hi A' E k P) : wI A k = wI A' k := by
  have key : ∀ {B : Nat → Nat → Int32}, zPX lim hi B E k P → ∃ a, egR E P 3 3 = some (some a) ∧ egI E a 2 3 = some (wI B k) := by
    intro B hB
    obtain ⟨ni, no, li, lo, β, Γ, a, n, x, pa, fp, ⟨p1, p2, p3, p4, p5, p6, p7, p8, p9, p10, p11, _⟩, _⟩ := hB
    refine ⟨a, p8, ?_⟩
    have ex1 : x.1.1 = B 16 k := by rw [p10]
    have ex2 : x.1.2 = a := by rw [p10]
    cases n with
    | zero => exact absurd p11 id
    | succ n =>
      have q2 := p11.2.2.2.2.2.2.1
      rw [ex1, ex2] at q2
      exact q2
  obtain ⟨a, a1, a2⟩ := key h
  obtain ⟨b, b1, b2⟩ := key h'
  rw [a1] at b1
  cases b1
  rw [a2] at b2
  exact Option.some.inj b2
end Q1
