/-! arrays among the other cells -/
def ea (E : ck_E) (b : Nat) (x : Int32) : Option Int32 := match E b with
  | some (.inl (t, n, .inl f)) => if t = 0 then (if gi x n = true then some (f x.toNatClampNeg) else none) else none
  | _ => none
theorem ea_of {E : ck_E} {b : Nat} {x y : Int32} (h : ea E b x = some y) : ∃ n f, E b = some (.inl (0, n, .inl f)) ∧ gi x n = true ∧ f x.toNatClampNeg = y := by
  unfold ea at h
  split at h
  · next t n f he =>
    by_cases ht : t = 0
    · rw [if_pos ht] at h
      subst ht
      by_cases hg : gi x n = true
      · rw [if_pos hg] at h
        cases h
        exact ⟨n, f, he, hg, rfl⟩
      · rw [if_neg hg] at h
        cases h
    · rw [if_neg ht] at h
      cases h
  · cases h
def el (E : ck_E) (b t : Nat) : Option Int32 := match E b with
  | some (.inl (t', n, _)) => if t' = t then some (nI n) else none
  | _ => none
theorem el_of {E : ck_E} {b t : Nat} {y : Int32} (h : el E b t = some y) : ∃ x : vp_A, E b = some (.inl (t, x)) ∧ nI x.1 = y := by
  unfold el at h
  split at h
  · next t' n f he =>
    by_cases ht : t' = t
    · rw [if_pos ht] at h
      subst ht
      cases h
      exact ⟨(n, f), he, rfl⟩
    · rw [if_neg ht] at h
      cases h
  · cases h
def er (E : ck_E) (b t : Nat) (x : Int32) : Option (Option Nat) := match E b with
  | some (.inl (t', n, .inr (.inr (.inr (.inr f))))) => if t' = t then (if gi x n = true then some (f x.toNatClampNeg) else none) else none
  | _ => none
theorem er_of {E : ck_E} {b t : Nat} {x : Int32} {y : Option Nat} (h : er E b t x = some y) : ∃ n f, E b = some (.inl (t, n, .inr (.inr (.inr (.inr f))))) ∧ gi x n = true ∧ f x.toNatClampNeg = y := by
  unfold er at h
  split at h
  · next t' n f he =>
    by_cases ht : t' = t
    · rw [if_pos ht] at h
      subst ht
      by_cases hg : gi x n = true
      · rw [if_pos hg] at h
        cases h
        exact ⟨n, f, he, hg, rfl⟩
      · rw [if_neg hg] at h
        cases h
    · rw [if_neg ht] at h
      cases h
  · cases h
def es (E : ck_E) (b t ci : Nat) (x : Int32) (v : Option Nat) : Option ck_E := match E b with
  | some (.inl (t', n, .inr (.inr (.inr (.inr f))))) => if t' = t then (if gi x n = true then (match v with
      | none => some (eset E b (.inl (t, n, .inr (.inr (.inr (.inr (va_up f x.toNatClampNeg none)))))))
      | some q => if eo E q ci = true then some (eset E b (.inl (t, n, .inr (.inr (.inr (.inr (va_up f x.toNatClampNeg (some q)))))))) else none) else none) else none
  | _ => none
theorem es_of {E E' : ck_E} {b t ci : Nat} {x : Int32} {v : Option Nat} (h : es E b t ci x v = some E') : ∃ n f, E b = some (.inl (t, n, .inr (.inr (.inr (.inr f))))) ∧ gi x n = true ∧ E' = eset E b (.inl (t, n, .inr (.inr (.inr (.inr (va_up f x.toNatClampNeg v)))))) ∧ ∀ q, v = some q → eo E q ci = true := by
  unfold es at h
  split at h
  · next t' n f he =>
    by_cases ht : t' = t
    · rw [if_pos ht] at h
      subst ht
      by_cases hg : gi x n = true
      · rw [if_pos hg] at h
        cases v with
        | none =>
          cases h
          exact ⟨n, f, he, hg, rfl, fun q hq => nomatch hq⟩
        | some q =>
          dsimp only at h
          by_cases ho : eo E q ci = true
          · rw [if_pos ho] at h
            cases h
            exact ⟨n, f, he, hg, rfl, fun q' hq => by cases hq; exact ho⟩
          · rw [if_neg ho] at h
            cases h
      · rw [if_neg hg] at h
        cases h
    · rw [if_neg ht] at h
      cases h
  · cases h
section CE
variable {l : Launch} {F : gx_F} {d : Nat} {M M' : gx_M} {K : ck_K} {a : Nat} {A : Nat → Nat} {pc : Nat} {L : List (Option Value)} {st : List Value} {σ : ck_S} {P : Option Value → ck_S → Prop}
theorem ck_la {i : gx_I} {b : Nat} {x y : Int32} (hM : gx_ok M) (ha : gx_at M.2 pc = some i) (hi : i.1 = .iaload) (hg : ea σ.2.2.2.1 b x = some y) (kk : ck_Go l F d M K a A i.2.2.2.2.1 L (.int y :: st) σ P) : ck_Go l F d M K a A pc L (.int x :: .ref b :: st) σ P := by
  intro σ0 h0 h h1 h2
  obtain ⟨n, f, g1, g2, rfl⟩ := ea_of hg
  exact gx_il1 hM ha hi rfl (h1.2.2.2.2.2.1 b _ g1).1 (gi_in g2) (kk σ0 h0 h h1 h2)
theorem ck_lE {i : gx_I} {b t : Nat} {ty : FieldType} {y : Int32} (hM : gx_ok M) (ha : gx_at M.2 pc = some i) (hi : i.1 = .arraylength) (ht : gx_TY[t]? = some ty) (hg : el σ.2.2.2.1 b t = some y) (kk : ck_Go l F d M K a A i.2.2.2.2.1 L (.int y :: st) σ P) : ck_Go l F d M K a A pc L (.ref b :: st) σ P := by
  intro σ0 h0 h h1 h2
  obtain ⟨x, g1, rfl⟩ := el_of hg
  exact gx_ln hM ha hi ht (h1.2.2.2.2.2.1 b _ g1).1 (kk σ0 h0 h h1 h2)
theorem ck_lr {i : gx_I} {b t : Nat} {C : String} {x : Int32} {y : Option Nat} (hM : gx_ok M) (ha : gx_at M.2 pc = some i) (hi : i.1 = .aaload) (ht : gx_TY[t]? = some (.object C)) (hg : er σ.2.2.2.1 b t x = some y) (kk : ck_Go l F d M K a A i.2.2.2.2.1 L (va_rf y :: st) σ P) : ck_Go l F d M K a A pc L (.int x :: .ref b :: st) σ P := by
  intro σ0 h0 h h1 h2
  obtain ⟨n, f, g1, g2, rfl⟩ := er_of hg
  exact gx_al1 hM ha hi ht (h1.2.2.2.2.2.1 b _ g1).1 (gi_in g2) rfl (kk σ0 h0 h h1 h2)
theorem ck_sr {i : gx_I} {b t ci : Nat} {r : vw_C} {x : Int32} {v : Option Nat} {E' : ck_E} (hM : gx_ok M) (ha : gx_at M.2 pc = some i) (hi : i.1 = .aastore) (ht : gx_TY[t]? = some (.object r.1)) (hcr : gx_cl[ci]? = some r) (hg : es σ.2.2.2.1 b t ci x v = some E') (kk : ck_Go l F d M K a A i.2.2.2.2.1 L st (σ.1, σ.2.1, σ.2.2.1, E', σ.2.2.2.2) P) : ck_Go l F d M K a A pc L (va_rf v :: .int x :: .ref b :: st) σ P := by
  intro σ0 h0 h h1 h2
  obtain ⟨n, f, g1, g2, rfl, g3⟩ := es_of hg
  obtain ⟨w1, w2⟩ := ck_wE h1 h2 (c := .inl (t, n, .inr (.inr (.inr (.inr (va_up f x.toNatClampNeg v)))))) g1
  cases v with
  | none => exact gx_as0 hM ha hi ht (h1.2.2.2.2.2.1 b _ g1).1 (gi_in g2) (kk σ0 h0 _ w1 w2)
  | some q =>
    obtain ⟨fs, hq⟩ := eo_of (g3 q rfl)
    exact gx_as1 hM ha hi ht hcr (h1.2.2.2.2.2.1 b _ g1).1 (h1.2.2.2.2.2.1 q _ hq).1 (gi_in g2) (kk σ0 h0 _ w1 w2)
end CE
