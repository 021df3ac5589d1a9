section H11
variable {lim hi hi' : Nat} {A A' : Nat → Nat → Int32} {E E' : ck_E} {k P : Nat}
theorem PX_fr (h2 : eF 2 E E') (h3 : eF 3 E E') (ha : eFa lim E E') (hA : ∀ j, (11 ≤ j ∧ j ≤ 26) ∨ j = 49 → A' j = A j) (hh : hi ≤ hi') (h : zPX lim hi A E k P) : zPX lim hi' A' E' k P := by
  obtain ⟨ni, no, li, lo, β, Γ, a, n, x, pa, fp, ⟨p1, p2, p3, p4, p5, p6, p7, p8, p9, p10, p11, p12, p13, p14, p15, p16, p17, p18, p19⟩, b1, b2, b3⟩ := h
  have e11 := hA 11 (by omega)
  have e12 := hA 12 (by omega)
  have e13 := hA 13 (by omega)
  have e14 := hA 14 (by omega)
  have e15 := hA 15 (by omega)
  have e16 := hA 16 (by omega)
  have e17 := hA 17 (by omega)
  have e18 := hA 18 (by omega)
  have e49 := hA 49 (by omega)
  refine ⟨ni, no, li, lo, β, Γ, a, n, x, pa, fp, ⟨?_, p2, p3, p4, by rw [e11]; exact egI_fr h3 p5, egI_fr h3 p6, egI_fr h3 p7, egR_fr h3 p8, p9, by rw [e16]; exact p10, nR_cg (fun j q1 q2 => hA j (by omega)) _ _ _ _ (nR_fr h2 _ _ _ _ p11), by rw [e49]; exact p12, by rw [e49]; exact p13, p14, by rw [e17]; exact p15, egR_fr h3 p16, ha _ _ _ p19.2 p17, by rw [e18]; exact p18, p19⟩, by omega, by omega, by omega⟩
  unfold zPD at p1 ⊢
  rw [e12, e13, e14, e15]
  exact p1
theorem PX_lo (hE : ∀ q, q < hi → E' q = E q) (he : ∀ j, j = 11 ∨ j = 12 ∨ j = 14 ∨ j = 16 ∨ j = 17 ∨ j = 49 → A' j k = A j k) (h49 : A' 49 (k + 1) = A 49 (k + 1)) (hl : ∀ i, i < 26 → A' 13 (26 * k + i) = A 13 (26 * k + i) ∧ A' 15 (26 * k + i) = A 15 (26 * k + i)) (hp : ∀ i, i < 30 → A' 18 (30 * k + i) = A 18 (30 * k + i)) (hT : ∀ e, e ≤ 2600 → A 49 (k + 1) = Int32.ofNat e → ∀ j q, 20 ≤ j → j ≤ 26 → q < e → A' j q = A j q) (hh : hi ≤ hi') (h : zPX lim hi A E k P) : zPX lim hi' A' E' k P := by
  obtain ⟨ni, no, li, lo, β, Γ, a, n, x, pa, fp, ⟨⟨d1, d2, d3, d4, d5, d6⟩, p2, p3, p4, p5, p6, p7, p8, p9, p10, p11, p12, p13, p14, p15, p16, p17, p18, p19⟩, b1, b2, b3⟩ := h
  have hpi := nR_pi p11
  have hpb := nR_1 p11
  have hEP : E' P = E P := hE P b3
  have ha : x.1.2 = a := by rw [p10]
  have eI : ∀ j, egI E' P 3 j = egI E P 3 j := fun j => egI_e (eg_E hEP)
  have eR : ∀ j, egR E' P 3 j = egR E P 3 j := fun j => egR_e (eg_E hEP)
  refine ⟨ni, no, li, lo, β, Γ, a, n, x, pa, fp, ⟨⟨d1, by rw [he 12 (by omega)]; exact d2, by rw [he 14 (by omega)]; exact d3, d4, fun i hi => by rw [(hl i (by omega)).1]; exact d5 i hi, fun i hi => by rw [(hl i (by omega)).2]; exact d6 i hi⟩, p2, p3, p4, by rw [eI, he 11 (by omega)]; exact p5, by rw [eI]; exact p6, by rw [eI]; exact p7, by rw [eR]; exact p8, p9, by rw [he 16 (by omega)]; exact p10, nR_ext _ _ _ _ p11 ⟨fun j q j1 j2 _ q2 _ => hT _ hpb.1 p13 j q j1 j2 q2, fun q _ q2 _ => hE q (by omega), fun j _ => eg_E (hE _ (by omega)), fun _ => hE _ (by omega)⟩ (fun _ _ _ => rfl), by rw [he 49 (by omega)]; exact p12, by rw [h49]; exact p13, p14, by rw [he 17 (by omega)]; exact p15, by rw [eR]; exact p16, by rw [hE pa b2]; exact p17, fun i hi => by rw [hp i (by omega)]; exact p18 i hi, p19⟩, by omega, by omega, by omega⟩
theorem PX_49 (h : zPX lim hi A E k P) : ∃ e, e ≤ 2600 ∧ A 49 (k + 1) = Int32.ofNat e := by
  obtain ⟨ni, no, li, lo, β, Γ, a, n, x, pa, fp, ⟨_, _, _, _, _, _, _, _, _, _, p11, _, p13, _⟩, _⟩ := h
  exact ⟨x.2.1.2, (nR_1 p11).1, p13⟩
end H11
section H12
variable {sz at_ pr pt : Nat} {σ : gm_S} {c : ck_S}
theorem pkT (h : CT sz at_ c) : sp_Rd_peek c = some (pk sz at_ c, c) := by
  obtain ⟨h1, h2, h3, h4, h5, _⟩ := h
  unfold sp_Rd_peek pk
  have e1 : (1 : Int32).toNatClampNeg = 1 := by decide
  rw [e1]
  by_cases hb : c.2.1 2 1 = 501
  · rw [if_pos hb, if_pos hb, h1, h3]
    by_cases hl : at_ < sz
    · rw [if_neg (fun e => by have := (le_N (by omega) (by omega)).mp e; omega), if_neg (fun e => by have := (le_N (by decide) (by omega)).mp (show Int32.ofNat 500 ≤ Int32.ofNat at_ from e); omega), if_pos (gi_of (by omega : at_ < 500) (by decide)), cl_of (by omega), if_pos hl]
    · rw [if_pos ((le_N (by omega) (by omega)).mpr (by omega)), if_neg hl]
  · rw [if_neg hb, if_neg hb]
theorem CT_R (h : CT sz at_ c) : CT sz at_ (cR c) ∧ (cR c).2.1 2 1 ≠ 501 ∧ (c.2.1 2 1 = 501 → (cR c).2.1 2 1 = Int32.ofNat at_) ∧ TF c (cR c) := by
  obtain ⟨h1, h2, h3, h4, h5, h6⟩ := h
  by_cases hb : c.2.1 2 1 = 501
  · have e : cR c = (c.1, gm_up c.2.1 2 (upd (c.2.1 2) 1 (c.1 8)), c.2.2) := if_pos hb
    rw [e]
    have e21 : (gm_up c.2.1 2 (upd (c.2.1 2) 1 (c.1 8))) 2 1 = Int32.ofNat at_ := h3
    refine ⟨⟨h1, h2, h3, h4, h5, fun k hk1 hk2 => ?_⟩, ?_, fun _ => e21, ⟨fun _ _ => rfl, rfl, rfl, fun h0 => absurd hb h0, fun k k2 _ h0 => ?_, fun _ _ => rfl, Nat.le_refl _⟩⟩
    · show upd (c.2.1 2) 1 (c.1 8) k = 501 ∨ ∃ w, w ≤ 500 ∧ upd (c.2.1 2) 1 (c.1 8) k = Int32.ofNat w
      by_cases hk : k = 1
      · subst hk
        exact Or.inr ⟨at_, by omega, e21⟩
      · rw [upd_ne hk]
        exact h6 k hk1 hk2
    · show (gm_up c.2.1 2 (upd (c.2.1 2) 1 (c.1 8))) 2 1 ≠ 501
      rw [e21]
      intro e'
      have := (eq_N (by omega) (by decide)).mp (show Int32.ofNat at_ = Int32.ofNat 501 from e')
      omega
    · show upd (c.2.1 2) 1 (c.1 8) k ≠ 501
      rw [upd_ne (by omega)]
      exact h0
  · have e : cR c = c := if_neg hb
    rw [e]
    exact ⟨⟨h1, h2, h3, h4, h5, h6⟩, hb, fun h' => absurd h' hb, TF_rf⟩
def AR (b : Nat) (c : ck_S) (g : Nat → Option Nat) : Prop := c.2.2.1 0 = some b ∧ b < c.2.2.2.2.1 ∧ c.2.2.2.1 b = some (.inl (4, 6, .inr (.inr (.inr (.inr g)))))
def TX (b : Nat) (c c' : ck_S) : Prop := (∀ j, (j < 8 ∨ 16 < j) → c'.1 j = c.1 j) ∧ c'.2.2.1 = c.2.2.1 ∧ c'.2.1 1 = c.2.1 1 ∧ (c.2.1 2 1 ≠ 501 → c'.2.1 2 1 = c.2.1 2 1) ∧ (∀ k, 2 ≤ k → k ≤ 4 → c.2.1 2 k ≠ 501 → c'.2.1 2 k ≠ 501) ∧ (∀ q, q < c.2.2.2.2.1 → q ≠ b → c'.2.2.2.1 q = c.2.2.2.1 q) ∧ c.2.2.2.2.1 ≤ c'.2.2.2.2.1
theorem TX_F {b : Nat} {c c' : ck_S} (h : TF c c') : TX b c c' := ⟨h.1, h.2.1, h.2.2.1, h.2.2.2.1, h.2.2.2.2.1, fun q hq _ => h.2.2.2.2.2.1 q hq, h.2.2.2.2.2.2⟩
theorem TX_tr {b : Nat} {c c1 c2 : ck_S} (h : TX b c c1) (k : TX b c1 c2) : TX b c c2 := by
  obtain ⟨a1, a2, a3, a4, a5, a6, a7⟩ := h
  obtain ⟨b1, b2, b3, b4, b5, b6, b7⟩ := k
  refine ⟨fun j hj => (b1 j hj).trans (a1 j hj), b2.trans a2, b3.trans a3, fun h0 => ?_, fun k h2 h4 h0 => b5 k h2 h4 (a5 k h2 h4 h0), fun q hq hb => (b6 q (by omega) hb).trans (a6 q hq hb), by omega⟩
  rw [b4 (by rw [a4 h0]; exact h0), a4 h0]
theorem TX_e {b : Nat} {c : ck_S} {z : gx_C} : TX b c (c.1, c.2.1, c.2.2.1, eset c.2.2.2.1 b z, c.2.2.2.2.1, c.2.2.2.2.2) := ⟨fun _ _ => rfl, rfl, rfl, fun _ => rfl, fun _ _ _ h => h, fun _ _ h => eset_ne h, Nat.le_refl _⟩
theorem AR_F {b : Nat} {g : Nat → Option Nat} {c c' : ck_S} (h : AR b c g) (k : TF c c') : AR b c' g := ⟨by rw [k.2.1]; exact h.1, by have := k.2.2.2.2.2.2; have := h.2.1; omega, by rw [k.2.2.2.2.2.1 b h.2.1]; exact h.2.2⟩
theorem es_eq {E : ck_E} {b k P : Nat} {g : Nat → Option Nat} (h : E b = some (.inl (4, 6, .inr (.inr (.inr (.inr g)))))) (hk : k < 6) (hP : eo E P 3 = true) : es E b 4 3 (Int32.ofNat k) (some P) = some (eset E b (.inl (4, 6, .inr (.inr (.inr (.inr (va_up g k (some P)))))))) := by
  unfold es
  rw [h]
  simp only
  rw [if_pos trivial, if_pos (gi_of hk (by decide)), cl_of (by omega), if_pos hP]
theorem lay_c {b : Nat} {g : Nat → Option Nat} (h : CT sz at_ c) (hr : AR b c g) (hp : pr < 6) : ∃ P c1 at1 c2, sp_Rd_readProgram c = some (some P, c1) ∧ es c1.2.2.2.1 b 4 3 (Int32.ofNat pr) (some P) = some c2.2.2.2.1 ∧ c2 = (c1.1, c1.2.1, c1.2.2.1, eset c1.2.2.2.1 b (.inl (4, 6, .inr (.inr (.inr (.inr (va_up g pr (some P))))))), c1.2.2.2.2.1, c1.2.2.2.2.2) ∧ CT sz at1 c2 ∧ at_ ≤ at1 ∧ TF c c1 ∧ TX b c c2 ∧ AR b c2 (va_up g pr (some P)) ∧ c2.2.2.2.2.1 ≤ c.2.2.2.2.1 + 12 * (at1 - at_) + 3 ∧ c2.2.2.2.2.2 ≤ c.2.2.2.2.2 + 72 * (at1 - at_) + 41 := by
  obtain ⟨P, c1, at1, p1, p2, p3, p4, p5, p6, p7, p8⟩ := prog_c h
  have hr1 := AR_F hr p4
  exact ⟨P, c1, at1, _, p1, es_eq hr1.2.2 hp p6, rfl, p2, p3, p4, TX_tr (TX_F p4) TX_e, ⟨hr1.1, hr1.2.1, eset_eq⟩, p7, p8⟩
theorem text_c {b : Nat} : ∀ (d pr m at_ : Nat) (c : ck_S) (g : Nat → Option Nat), CT sz at_ c → AR b c g → pr + d = 6 → d < m → ∃ n c' at' g', sp_Rd_readText_35 m (Int32.ofNat pr) c = some (Int32.ofNat n, c') ∧ n ≤ 6 ∧ CT sz at' c' ∧ at_ ≤ at' ∧ TX b c c' ∧ AR b c' g' ∧ c'.2.2.2.2.1 ≤ c.2.2.2.2.1 + 12 * (at' - at_) + 3 * d ∧ c'.2.2.2.2.2 ≤ c.2.2.2.2.2 + 72 * (at' - at_) + 41 * d := by
  intro d
  induction d with
  | zero =>
    intro pr m at_ c g h hr hp hm
    obtain ⟨m, rfl⟩ : ∃ j, m = j + 1 := ⟨m - 1, by omega⟩
    have : pr = 6 := by omega
    subst this
    rw [sp_Rd_readText_35, if_pos (by decide), pkT h]
    simp only
    by_cases hq : pk sz at_ c = -1
    · rw [if_pos hq]
      exact ⟨6, c, at_, g, rfl, by omega, h, Nat.le_refl _, TX_F TF_rf, hr, by omega, by omega⟩
    · rw [if_neg hq, rf_eq]
      have hR := CT_R h
      refine ⟨6, _, at_, g, rfl, by omega, hR.1, Nat.le_refl _, TX_F hR.2.2.2, AR_F hr hR.2.2.2, ?_, ?_⟩
      · rw [cR_h]; omega
      · rw [cR_h]; omega
  | succ d ih =>
    intro pr m at_ c g h hr hp hm
    obtain ⟨m, rfl⟩ : ∃ j, m = j + 1 := ⟨m - 1, by omega⟩
    obtain ⟨P, c1, at1, c2, l1, l2, l3, l4, l5, l6, l7, l8, l9, l10⟩ := lay_c h hr (by omega : pr < 6)
    obtain ⟨n, c', at', g', r1, r2, r3, r4, r5, r6, r7, r8⟩ := ih (pr + 1) m at1 c2 _ l4 l8 (by omega) (by omega)
    have hres : ∃ n c' at' g', (match sp_Rd_readProgram c with
        | none => none
        | some y7 => (match (c.2.2.1 0) with
          | none => none
          | some b8 => (match es y7.2.2.2.2.1 b8 4 3 (Int32.ofNat pr) y7.1 with
            | none => none
            | some y9 => sp_Rd_readText_35 m (Int32.ofNat pr + 1) (y7.2.1, y7.2.2.1, y7.2.2.2.1, y9, y7.2.2.2.2.2.1, y7.2.2.2.2.2.2)))) = some (Int32.ofNat n, c') ∧ n ≤ 6 ∧ CT sz at' c' ∧ at_ ≤ at' ∧ TX b c c' ∧ AR b c' g' ∧ c'.2.2.2.2.1 ≤ c.2.2.2.2.1 + 12 * (at' - at_) + 3 * (d + 1) ∧ c'.2.2.2.2.2 ≤ c.2.2.2.2.2 + 72 * (at' - at_) + 41 * (d + 1) := by
      refine ⟨n, c', at', g', ?_, r2, r3, by omega, TX_tr l7 r5, r6, by omega, by omega⟩
      rw [l1, hr.1]
      simp only
      rw [l2, ofN_s]
      simp only
      rw [l3] at r1 ⊢
      exact r1
    rw [sp_Rd_readText_35, if_neg (show ¬ ((6 : Int32) ≤ Int32.ofNat pr) from fun e => by have := (le_N (a := 6) (by decide) (by omega)).mp e; omega)]
    by_cases h0 : Int32.ofNat pr = 0
    · rw [if_pos h0]
      exact hres
    · rw [if_neg h0, pkT h]
      simp only
      by_cases hq : pk sz at_ c = -1
      · rw [if_pos hq, pkT h]
        simp only
        rw [if_pos hq]
        exact ⟨pr, c, at_, g, rfl, by omega, h, Nat.le_refl _, TX_F TF_rf, hr, by omega, by omega⟩
      · rw [if_neg hq]
        exact hres
end H12
