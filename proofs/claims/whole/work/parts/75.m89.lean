def rY (σ σ' : gm_S) : Prop := (∀ j, j ≠ 27 → j ≠ 28 → j ≠ 29 → j ≠ 32 → j ≠ 19 → j ≠ 34 → j ≠ 35 → j ≠ 10 → j ≠ 36 → j ≠ 37 → σ'.1 j = σ.1 j) ∧ (∀ j, (j < 11 ∨ j = 19 ∨ 26 < j) → j ≠ 30 → j ≠ 31 → j ≠ 33 → j ≠ 49 → σ'.2 j = σ.2 j) ∧ σ'.2 49 0 = σ.2 49 0
theorem rY_V {σ σ' : gm_S} (h : rV σ σ') : rY σ σ' := ⟨fun j a b c d e f g i _ _ => h.1 j a b c d e f g i, h.2⟩
theorem rY_tr {σ σ1 σ2 : gm_S} (h : rY σ σ1) (k : rY σ1 σ2) : rY σ σ2 := ⟨fun j a b c d e f g i l m => (k.1 j a b c d e f g i l m).trans (h.1 j a b c d e f g i l m), fun j a b c d e => (k.2.1 j a b c d e).trans (h.2.1 j a b c d e), k.2.2.trans h.2.2⟩
theorem rY_36 {σ : gm_S} {x y : Int32} : rY σ (upd (upd σ.1 36 x) 37 y, σ.2) := ⟨fun j _ _ _ _ _ _ _ _ a b => by show upd (upd σ.1 36 x) 37 y j = _; rw [upd_ne b, upd_ne a], fun _ _ _ _ _ _ => rfl, rfl⟩
theorem rY_rf {σ : gm_S} : rY σ σ := rY_V rV_rf
def FK (c : ck_S) (k p : Int32) : Prop := sp_Rd_faultKind c = some (k, c) ∧ sp_Rd_faultPlace c = some (p, c)
section H13
variable {lim sz at_ pr pt : Nat} {σ : gm_S} {c : ck_S}
theorem fk_s {m k : Nat} (h4 : k ≤ 4) : sp_Rd_faultKind_2 (m + 1) (Int32.ofNat k) c = if c.2.1 2 k = 501 then sp_Rd_faultKind_2 m (Int32.ofNat (k + 1)) c else some (Int32.ofNat k, c) := by
  rw [sp_Rd_faultKind_2, if_neg (show ¬ ((4 : Int32) < Int32.ofNat k) from fun e => by have := (lt_N (a := 4) (by decide) (by omega)).mp e; omega), if_pos (gi_of (by omega) (by decide)), cl_of (by omega), ofN_s]
theorem fk_run {k : Nat} (h1 : 1 ≤ k) (h4 : k ≤ 4) (hn : c.2.1 2 k ≠ 501) (hb : ∀ j, 1 ≤ j → j < k → c.2.1 2 j = 501) : ∀ (d m j : Nat), j + d = k → 1 ≤ j → d < m → sp_Rd_faultKind_2 m (Int32.ofNat j) c = some (Int32.ofNat k, c) := by
  intro d
  induction d with
  | zero =>
    intro m j hj h1 hm
    obtain ⟨m, rfl⟩ : ∃ i, m = i + 1 := ⟨m - 1, by omega⟩
    have : j = k := by omega
    subst this
    rw [fk_s h4, if_neg hn]
  | succ d ih =>
    intro m j hj h1 hm
    obtain ⟨m, rfl⟩ : ∃ i, m = i + 1 := ⟨m - 1, by omega⟩
    rw [fk_s (by omega), if_pos (hb j h1 (by omega))]
    exact ih m (j + 1) (by omega) (by omega) (by omega)
theorem FK_k {k : Nat} (h1 : 1 ≤ k) (h4 : k ≤ 4) (hn : c.2.1 2 k ≠ 501) (hb : ∀ j, 1 ≤ j → j < k → c.2.1 2 j = 501) : FK c (Int32.ofNat k) (c.2.1 2 k) := by
  have e : sp_Rd_faultKind c = some (Int32.ofNat k, c) := fk_run h1 h4 hn hb (k - 1) 2601 1 (by omega) (by omega) (by omega)
  refine ⟨e, ?_⟩
  unfold sp_Rd_faultPlace
  rw [e]
  simp only
  rw [if_neg (show ¬ (Int32.ofNat k = 0) from ofN_ne0 (by omega) (by omega)), if_pos (gi_of (by omega) (by decide)), cl_of (by omega)]
theorem FK_0 (h : ∀ j, 1 ≤ j → j ≤ 4 → c.2.1 2 j = 501) : FK c 0 0 := by
  have e : sp_Rd_faultKind c = some (0, c) := by
    show sp_Rd_faultKind_2 (2600 + 1) (Int32.ofNat 1) c = _
    rw [fk_s (by decide), if_pos (h 1 (by decide) (by decide))]
    show sp_Rd_faultKind_2 (2599 + 1) (Int32.ofNat 2) c = _
    rw [fk_s (by decide), if_pos (h 2 (by decide) (by decide))]
    show sp_Rd_faultKind_2 (2598 + 1) (Int32.ofNat 3) c = _
    rw [fk_s (by decide), if_pos (h 3 (by decide) (by decide))]
    show sp_Rd_faultKind_2 (2597 + 1) (Int32.ofNat 4) c = _
    rw [fk_s (by decide), if_pos (h 4 (by decide) (by decide))]
    show sp_Rd_faultKind_2 (2596 + 1) 5 c = _
    rw [sp_Rd_faultKind_2, if_pos (by decide)]
  refine ⟨e, ?_⟩
  unfold sp_Rd_faultPlace
  rw [e]
  simp only
  rw [if_pos trivial]
theorem m99_s {m k : Nat} {v1 : Int32} (h4 : k ≤ 4) : sp_Md_isModule_99 (m + 1) v1 (Int32.ofNat k) σ = if σ.2 30 k = -1 then sp_Md_isModule_99 m v1 (Int32.ofNat (k + 1)) (upd (upd σ.1 36 (Int32.ofNat k)) 37 (σ.2 30 k), σ.2) else some (0, (upd (upd σ.1 36 (Int32.ofNat k)) 37 (σ.2 30 k), σ.2)) := by
  rw [sp_Md_isModule_99, if_neg (show ¬ ((5 : Int32) ≤ Int32.ofNat k) from fun e => by have := (le_N (a := 5) (by decide) (by omega)).mp e; omega), if_pos (gi_of (by omega) (by decide)), cl_of (by omega), ofN_s]
theorem m99_e {m : Nat} {v1 : Int32} : sp_Md_isModule_99 (m + 1) v1 5 σ = some (1, σ) := by
  rw [sp_Md_isModule_99, if_pos (by decide)]
theorem frk_i {k : Nat} (h : frk k σ c) : (c.2.1 2 k = 501 ↔ σ.2 30 k = -1) ∧ (c.2.1 2 k ≠ 501 → c.2.1 2 k = σ.2 30 k) := by
  rcases h with ⟨e1, e2⟩ | ⟨w, w1, w2, w3⟩
  · exact ⟨⟨fun _ => e2, fun _ => e1⟩, fun e => absurd e1 e⟩
  · refine ⟨⟨fun e => ?_, fun e => ?_⟩, fun _ => w2.trans w3.symm⟩
    · rw [w2] at e
      have := (eq_N (b := 501) (by omega) (by decide)).mp e
      omega
    · rw [w3] at e
      exact absurd e (ofN_n1 (by omega))
theorem frk_w (h : fw at_ σ c) (ha : at_ ≤ 500) : frk 2 σ c := by
  rcases h with e | ⟨w, w1, w2, w3⟩
  · exact Or.inl e
  · exact Or.inr ⟨w, by omega, w2, w3⟩
theorem m99_j {m : Nat} {v1 : Int32} (hm : 4 < m) (hA : AL sz at_ σ c) (h2 : fw at_ σ c) (h3 : frk 3 σ c) (h4 : frk 4 σ c) : ∃ r σ', sp_Md_isModule_99 m v1 2 σ = some (r, σ') ∧ rY σ σ' ∧ σ'.2 = σ.2 ∧ (σ'.1 10 = σ.1 10 ∧ σ'.1 19 = σ.1 19) ∧ ((r = 1 ∧ FK c 0 0 ∧ noF c) ∨ (r = 0 ∧ FK c (σ'.1 36) (σ'.1 37) ∧ ¬ (σ'.1 36 = 0))) := by
  obtain ⟨m, rfl⟩ : ∃ i, m = i + 1 + 1 + 1 + 1 := ⟨m - 4, by omega⟩
  have hs : sz ≤ 500 := hA.1.2.1
  have ha : at_ ≤ sz := hA.1.2.2.2.1
  have i2 := frk_i (frk_w h2 (by omega))
  have i3 := frk_i h3
  have i4 := frk_i h4
  have h1 := hA.2.1
  show ∃ r σ', sp_Md_isModule_99 (m + 1 + 1 + 1 + 1) v1 (Int32.ofNat 2) σ = some (r, σ') ∧ _
  rw [m99_s (by decide)]
  by_cases e2 : σ.2 30 2 = -1
  · rw [if_pos e2, m99_s (by decide)]
    by_cases e3 : σ.2 30 3 = -1
    · rw [if_pos (show σ.2 30 3 = -1 from e3), m99_s (by decide)]
      by_cases e4 : σ.2 30 4 = -1
      · rw [if_pos (show σ.2 30 4 = -1 from e4), show Int32.ofNat (2 + 1 + 1 + 1) = 5 from rfl, m99_e]
        refine ⟨1, _, rfl, rY_tr (rY_tr rY_36 rY_36) rY_36, rfl, ⟨rfl, rfl⟩, Or.inl ⟨rfl, FK_0 (fun j j1 j2 => ?_), i2.1.mpr e2, i3.1.mpr e3, i4.1.mpr e4⟩⟩
        · match j, j1, j2 with
          | 1, _, _ => exact h1
          | 2, _, _ => exact i2.1.mpr e2
          | 3, _, _ => exact i3.1.mpr e3
          | 4, _, _ => exact i4.1.mpr e4
      · rw [if_neg (show ¬ (σ.2 30 4 = -1) from e4)]
        refine ⟨0, _, rfl, rY_tr (rY_tr rY_36 rY_36) rY_36, rfl, ⟨rfl, rfl⟩, Or.inr ⟨rfl, ?_, (show ¬ ((4 : Int32) = 0) by decide)⟩⟩
        have hn : c.2.1 2 4 ≠ 501 := fun e => e4 (i4.1.mp e)
        show FK c (Int32.ofNat 4) (σ.2 30 4)
        rw [← i4.2 hn]
        refine FK_k (by decide) (by decide) hn (fun j j1 j2 => ?_)
        match j, j1, j2 with
        | 1, _, _ => exact h1
        | 2, _, _ => exact i2.1.mpr e2
        | 3, _, _ => exact i3.1.mpr e3
    · rw [if_neg (show ¬ (σ.2 30 3 = -1) from e3)]
      refine ⟨0, _, rfl, rY_tr rY_36 rY_36, rfl, ⟨rfl, rfl⟩, Or.inr ⟨rfl, ?_, (show ¬ ((3 : Int32) = 0) by decide)⟩⟩
      have hn : c.2.1 2 3 ≠ 501 := fun e => e3 (i3.1.mp e)
      show FK c (Int32.ofNat 3) (σ.2 30 3)
      rw [← i3.2 hn]
      refine FK_k (by decide) (by decide) hn (fun j j1 j2 => ?_)
      match j, j1, j2 with
      | 1, _, _ => exact h1
      | 2, _, _ => exact i2.1.mpr e2
  · rw [if_neg e2]
    refine ⟨0, _, rfl, rY_36, rfl, ⟨rfl, rfl⟩, Or.inr ⟨rfl, ?_, (show ¬ ((2 : Int32) = 0) by decide)⟩⟩
    have hn : c.2.1 2 2 ≠ 501 := fun e => e2 (i2.1.mp e)
    show FK c (Int32.ofNat 2) (σ.2 30 2)
    rw [← i2.2 hn]
    refine FK_k (by decide) (by decide) hn (fun j j1 j2 => ?_)
    match j, j1, j2 with
    | 1, _, _ => exact h1
def PS (lim n : Nat) (σ : gm_S) (c : ck_S) (g : Nat → Option Nat) : Prop := ∀ k, k < n → ∃ P, g k = some P ∧ zPX lim c.2.2.2.2.1 σ.2 c.2.2.2.1 k P
def PT (n : Nat) (σ : gm_S) : Prop := ∃ pt, pt ≤ 2600 ∧ σ.1 19 = Int32.ofNat pt ∧ ∀ k, k < n → ∃ e, e ≤ pt ∧ σ.2 49 (k + 1) = Int32.ofNat e
def TJ (lim b : Nat) (σ : gm_S) (R : Option (Int32 × gm_S)) (C : Option (Int32 × ck_S)) : Prop := ∃ r σ' n c' g', R = some (r, σ') ∧ C = some (Int32.ofNat n, c') ∧ rY σ σ' ∧ AR b c' g' ∧ ((r = 1 ∧ FK c' 0 0 ∧ σ'.1 10 = Int32.ofNat n ∧ 1 ≤ n ∧ n ≤ 6 ∧ PS lim n σ' c' g' ∧ PT n σ') ∨ (r = 0 ∧ FK c' (σ'.1 36) (σ'.1 37) ∧ ¬ (σ'.1 36 = 0)))
theorem TJ_W {b : Nat} {σ1 : gm_S} {R : Option (Int32 × gm_S)} {C : Option (Int32 × ck_S)} (hr : rY σ σ1) (h : TJ lim b σ1 R C) : TJ lim b σ R C := by
  obtain ⟨r, σ', n, c', g', h1, h2, h3, h4, h5⟩ := h
  exact ⟨r, σ', n, c', g', h1, h2, rY_tr hr h3, h4, h5⟩
def IV (lim sz at_ pr pt b : Nat) (σ : gm_S) (c : ck_S) (g : Nat → Option Nat) : Prop := HT sz at_ pr pt σ c ∧ NM pr σ c ∧ AR b c g ∧ lim ≤ c.2.2.2.2.1 ∧ (∀ k, k < pr → ∃ e, e ≤ pt ∧ σ.2 49 (k + 1) = Int32.ofNat e) ∧ (noF c → PS lim pr σ c g)
theorem eF_b {ci b : Nat} {E : ck_E} {g : Nat → Option Nat} {z : gx_C} (h : E b = some (.inl (4, 6, .inr (.inr (.inr (.inr g)))))) : eF ci E (eset E b z) := by
  intro q fs hq
  by_cases e : q = b
  · rw [e, h] at hq
    cases hq
  · rw [eset_ne e]
    exact hq
theorem eFa_b {b : Nat} {E : ck_E} {g : Nat → Option Nat} {z : gx_C} (h : E b = some (.inl (4, 6, .inr (.inr (.inr (.inr g)))))) : eFa lim E (eset E b z) := by
  intro q n f _ hq
  by_cases e : q = b
  · rw [e, h] at hq
    cases hq
  · rw [eset_ne e]
    exact hq
def cNx (m : Nat) (v1 : Int32) (c : ck_S) : Option (Int32 × ck_S) := (match sp_Rd_readProgram c with
  | none => none
  | some y7 => (match (c.2.2.1 0) with
    | none => none
    | some b8 => (match es y7.2.2.2.2.1 b8 4 3 v1 y7.1 with
      | none => none
      | some y9 => sp_Rd_readText_35 m (v1 + 1) (y7.2.1, y7.2.2.1, y7.2.2.2.1, y9, y7.2.2.2.2.2.1, y7.2.2.2.2.2.2))))
def rNx (m : Nat) (σ : gm_S) : Option (Int32 × gm_S) := (match sp_Md_readProgram σ with
  | none => none
  | some y10 => sp_Md_isModule_55 m y10.1 y10.2)
theorem vu_eq {g : Nat → Option Nat} {k : Nat} {x : Option Nat} : va_up g k x k = x := if_pos rfl
theorem vu_ne {g : Nat → Option Nat} {k j : Nat} {x : Option Nat} (h : j ≠ k) : va_up g k x j = g j := if_neg h
theorem next_j {b m m' : Nat} {g : Nat → Option Nat} (hm : 0 < m) (hm' : 0 < m') (hpr : pr < 6) (h : IV lim sz at_ pr pt b σ c g) (ih : ∀ at1 pt1 σ1 c1 g1, IV lim sz at1 (pr + 1) pt1 b σ1 c1 g1 → TJ lim b σ1 (sp_Md_isModule_55 m 1 σ1) (sp_Rd_readText_35 m' (Int32.ofNat (pr + 1)) c1)) : TJ lim b σ (rNx m σ) (cNx m' (Int32.ofNat pr) c) := by
  obtain ⟨h1, h2, h3, h4, h5, h6⟩ := h
  obtain ⟨P, c1, at1, c2, l1, l2, l3, l4, l5, l6, l7, l8, l9, l10⟩ := lay_c h1.1.1 h3 hpr
  obtain ⟨r, σ1, P', c1', j1, j2, j3, j4⟩ := prog_j (lim := lim) h1 h2 hpr h4
  rw [l1] at j2
  cases j2
  unfold rNx cNx
  rw [j1, l1, h3.1]
  simp only
  rw [l2, ofN_s]
  simp only
  have hc2 : (c1.1, c1.2.1, c1.2.2.1, c2.2.2.2.1, c1.2.2.2.2.1, c1.2.2.2.2.2) = c2 := by rw [l3]
  rw [hc2]
  have e21 : c2.2.1 = c1.2.1 := by rw [l3]
  have e20 : c2.1 = c1.1 := by rw [l3]
  have e2n : c2.2.2.2.2.1 = c1.2.2.2.2.1 := by rw [l3]
  have e2E : c2.2.2.2.1 = eset c1.2.2.2.1 b (.inl (4, 6, .inr (.inr (.inr (.inr (va_up g pr (some P))))))) := by rw [l3]
  rcases j4 with ⟨a1, a2, a3, ⟨at', pt', a4, a4'⟩, a5⟩ | ⟨a1, a2, w, w1, w2⟩
  · subst a1
    have hE1 : c1.2.2.2.1 b = some (.inl (4, 6, .inr (.inr (.inr (.inr g))))) := (AR_F h3 l6).2.2
    refine TJ_W (rY_V j3) (ih at' pt' σ1 c2 _ ⟨?_, ?_, l8, ?_, fun k hk => ?_, fun hn k hk => ?_⟩)
    · unfold HT AL CT fw frk at a4 ⊢
      rw [e20, e21]
      exact a4
    · unfold NM at a2 ⊢
      rw [e20]
      exact a2
    · rw [e2n]
      have := l6.2.2.2.2.2.2
      omega
    · by_cases e : k = pr
      · rw [e]
        exact ⟨pt', Nat.le_refl _, a4.2.2.2.2.2.2.2.2.2⟩
      · obtain ⟨e', e1, e2⟩ := h5 k (by omega)
        exact ⟨e', by omega, by rw [a3.2.2.1 (k + 1) (by omega)]; exact e2⟩
    · have hn1 : noF c1 := by
        unfold noF at hn ⊢
        rw [e21] at hn
        exact hn
      rw [e2n, e2E]
      by_cases e : k = pr
      · rw [e]
        exact ⟨P, vu_eq, PX_fr (eF_b hE1) (eF_b hE1) (eFa_b hE1) (fun _ _ => rfl) (Nat.le_refl _) (a5 hn1)⟩
      · have hn0 : noF c := by
          have bk : ∀ j, 2 ≤ j → j ≤ 4 → c1.2.1 2 j = 501 → c.2.1 2 j = 501 := fun j x y z => Classical.byContradiction fun q => l6.2.2.2.2.1 j x y q z
          exact ⟨bk 2 (by decide) (by decide) hn1.1, bk 3 (by decide) (by decide) hn1.2.1, bk 4 (by decide) (by decide) hn1.2.2⟩
        have hk' : k < pr := by omega
        obtain ⟨Q, q1, q2⟩ := h6 hn0 k hk'
        refine ⟨Q, by rw [vu_ne e]; exact q1, PX_fr (eF_b hE1) (eF_b hE1) (eFa_b hE1) (fun _ _ => rfl) (Nat.le_refl _) (PX_lo (fun q hq => l6.2.2.2.2.2.1 q hq) (fun j hj => ?_) (a3.2.2.1 (k + 1) (by omega)) (fun i hi => a3.2.2.2.1 (26 * k + i) (by omega)) (fun i hi => a3.2.2.2.2.1 (30 * k + i) (by omega)) (fun e he h49 j q x y z => ?_) l6.2.2.2.2.2.2 q2)⟩
        · obtain ⟨y1, y2, y3, y4, y5⟩ := a3.2.1 k hk'
          rcases hj with rfl | rfl | rfl | rfl | rfl | rfl
          · exact y1
          · exact y2
          · exact y3
          · exact y4
          · exact y5
          · exact a3.2.2.1 k (by omega)
        · obtain ⟨e', e1, e2⟩ := h5 k hk'
          rw [h49] at e2
          have hb : pt ≤ 2500 := by have := h1.2.2.2.2.2.1.2; have := h1.1.1.2.1; have := h1.1.1.2.2.2.1; omega
          have := (eq_N (by omega) (by omega)).mp e2
          exact a3.2.2.2.2.2 j q x y (by omega)
  · subst a1
    obtain ⟨m, rfl⟩ : ∃ i, m = i + 1 := ⟨m - 1, by omega⟩
    obtain ⟨m', rfl⟩ : ∃ i, m' = i + 1 := ⟨m' - 1, by omega⟩
    have hb : c2.2.1 2 1 ≠ 501 := by
      rw [e21, a2, w2]
      intro e
      have := (eq_N (b := 501) (by omega) (by decide)).mp e
      omega
    have hpk : pk sz at1 c2 = -1 := pk_b hb
    have hR : sp_Md_isModule_55 (m + 1) 0 σ1 = some (0, (upd (upd σ1.1 36 1) 37 (σ1.1 27), σ1.2)) := by
      rw [sp_Md_isModule_55, if_pos rfl]
    have hC : sp_Rd_readText_35 (m' + 1) (Int32.ofNat (pr + 1)) c2 = some (Int32.ofNat (pr + 1), c2) := by
      rw [sp_Rd_readText_35]
      by_cases h6 : (6 : Int32) ≤ Int32.ofNat (pr + 1)
      · rw [if_pos h6, pkT l4]
        simp only
        rw [if_pos hpk]
      · rw [if_neg h6, if_neg (ofN_ne0 (by omega) (by omega)), pkT l4]
        simp only
        rw [if_pos hpk, pkT l4]
        simp only
        rw [if_pos hpk]
    rw [hR, hC]
    refine ⟨0, _, pr + 1, c2, _, rfl, rfl, rY_tr (rY_V j3) rY_36, l8, Or.inr ⟨rfl, ?_, (show ¬ ((1 : Int32) = 0) by decide)⟩⟩
    show FK c2 (Int32.ofNat 1) (σ1.1 27)
    rw [← a2, ← e21]
    exact FK_k (by decide) (by decide) hb (fun j j1 j2 => by omega)
end H13
