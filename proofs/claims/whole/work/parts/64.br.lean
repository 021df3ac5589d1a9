/-! AN OBJECT WITHIN THE OTHER CELLS: taken out of E, run as the own object of its kind, put back -/
def eix (K : ck_K) (B : Nat → Nat) (q : Nat) : Option Nat := (List.range 20).find? (fun k => !(Nat.beq (K.2.2.1 k) 0) && Nat.beq q (B k))
theorem eix_some {K : ck_K} {B : Nat → Nat} {q k : Nat} (h : eix K B q = some k) : K.2.2.1 k ≠ 0 ∧ q = B k := by
  have h1 := List.find?_some h
  simp only [Bool.and_eq_true, Bool.not_eq_true'] at h1
  obtain ⟨h2, h3⟩ := h1
  refine ⟨fun e => ?_, Nat.eq_of_beq_eq_true h3⟩
  rw [e] at h2
  cases h2
theorem eix_none {K : ck_K} {B : Nat → Nat} {q : Nat} (hl : ∀ k, K.2.2.1 k ≠ 0 → k < 20) (h : eix K B q = none) : ∀ k, K.2.2.1 k ≠ 0 → q ≠ B k := by
  intro k hk e
  have h1 := List.find?_eq_none.mp h k (List.mem_range.mpr (hl k hk))
  apply h1
  simp only [Bool.and_eq_true, Bool.not_eq_true']
  refine ⟨?_, by rw [e]; exact Nat.beq_refl _⟩
  cases hb : Nat.beq (K.2.2.1 k) 0 with
  | false => rfl
  | true => exact absurd (Nat.eq_of_beq_eq_true hb) hk
def edel (E : ck_E) (K : ck_K) (t : Nat) (B : Nat → Nat) : ck_E := fun q => if q = t then none else match eix K B q with
  | some _ => none
  | none => E q
def eput (K : ck_K) (t : Nat) (B : Nat → Nat) (σ : ck_S) : ck_E := fun q => if q = t then some (.inr (K.1, K.2.1 B σ.1 σ.2.2.1)) else match eix K B q with
  | some k => some (.inl (K.2.2.2 k, K.2.2.1 k, .inl (σ.2.1 k)))
  | none => σ.2.2.2.1 q
/-- an object of kind K stands at t among the cells E -/
def ck_In (K : ck_K) (t : Nat) (B : Nat → Nat) (ρ : Nat → Int32) (τ : Nat → Nat → Int32) (κ : Nat → Option Nat) (E : ck_E) : Prop :=
  (∀ k, K.2.2.1 k ≠ 0 → k < 20) ∧ E t = some (.inr (K.1, K.2.1 B ρ κ)) ∧ (∀ k, K.2.2.1 k ≠ 0 → E (B k) = some (.inl (K.2.2.2 k, K.2.2.1 k, .inl (τ k)))) ∧ ∀ k j, K.2.2.1 k ≠ 0 → K.2.2.1 j ≠ 0 → B k = B j → k = j
theorem edel_some {E : ck_E} {K : ck_K} {t : Nat} {B : Nat → Nat} (hl : ∀ k, K.2.2.1 k ≠ 0 → k < 20) {q : Nat} {c : gx_C} (h : edel E K t B q = some c) : E q = some c ∧ ck_no K t B q := by
  unfold edel at h
  by_cases e : q = t
  · rw [if_pos e] at h
    cases h
  · rw [if_neg e] at h
    cases hx : eix K B q with
    | some k =>
      rw [hx] at h
      cases h
    | none =>
      rw [hx] at h
      exact ⟨h, e, eix_none hl hx⟩
theorem edel_none {E : ck_E} {K : ck_K} {t : Nat} {B : Nat → Nat} {q : Nat} (h : E q = none) : edel E K t B q = none := by
  unfold edel
  by_cases e : q = t
  · rw [if_pos e]
  · rw [if_neg e]
    cases hx : eix K B q with
    | some k => rfl
    | none => exact h
theorem eput_no {K : ck_K} {t : Nat} {B : Nat → Nat} {σ : ck_S} {q : Nat} (h : ck_no K t B q) : eput K t B σ q = σ.2.2.2.1 q := by
  unfold eput
  rw [if_neg h.1]
  cases hx : eix K B q with
  | some k =>
    obtain ⟨h1, h2⟩ := eix_some hx
    exact absurd h2 (h.2 k h1)
  | none => rfl
section BR
variable {l : Launch} {F : gx_F} {d : Nat} {M : gx_M} {K K2 : ck_K} {a t : Nat} {A B : Nat → Nat} {σ σ1 : ck_S} {ρ : Nat → Int32} {τ : Nat → Nat → Int32} {κ : Nat → Option Nat}
theorem ck_br {As : List Value} {e : Option Value} (hI : ck_In K2 t B ρ τ κ σ.2.2.2.1) (hm : ck_Has l F d M K2 t B As (ρ, τ, κ, edel σ.2.2.2.1 K2 t B, σ.2.2.2.2) (fun v σ' => v = e ∧ σ' = σ1)) : ck_Has l F d M K a A As σ (fun v σ' => v = e ∧ σ' = (σ.1, σ.2.1, σ.2.2.1, eput K2 t B σ1, σ1.2.2.2.2)) := by
  intro h hA
  obtain ⟨i1, i2, i3, i4⟩ := hI
  obtain ⟨a1, a2, a3, a4, a5, a6, a7⟩ := hA
  have hat : ck_At K2 t B (ρ, τ, κ, edel σ.2.2.2.1 K2 t B, σ.2.2.2.2) h := by
    refine ⟨a1, a2, (a6 t _ i2).1, fun k hk => (a6 _ _ (i3 k hk)).1, i4, fun n c hn => ?_, fun n hn => ?_⟩
    · obtain ⟨g1, g2⟩ := edel_some i1 hn
      exact ⟨(a6 n c g1).1, g2⟩
    · obtain ⟨g1, g2⟩ := a7 n hn
      refine ⟨edel_none g1, fun e => ?_, fun k hk e => ?_⟩
      · subst e
        rw [i2] at g1
        cases g1
      · subst e
        rw [i3 k hk] at g1
        cases g1
  obtain ⟨v, h', hmet, σ', ⟨hv, hs⟩, b1, b2⟩ := hm h hat
  subst hs
  have lt_a : a < σ.2.2.2.2.1 := Nat.lt_of_not_le fun hh => (a7 a hh).2.1 rfl
  have lt_A : ∀ k, K.2.2.1 k ≠ 0 → A k < σ.2.2.2.2.1 := fun k hk => Nat.lt_of_not_le fun hh => (a7 _ hh).2.2 k hk rfl
  have E_a : σ.2.2.2.1 a = none := by
    cases hx : σ.2.2.2.1 a with
    | none => rfl
    | some c => exact absurd rfl (a6 a c hx).2.1
  have E_A : ∀ k, K.2.2.1 k ≠ 0 → σ.2.2.2.1 (A k) = none := fun k hk => by
    cases hx : σ.2.2.2.1 (A k) with
    | none => rfl
    | some c => exact absurd rfl ((a6 _ c hx).2.2 k hk)
  have no_of : ∀ q, σ.2.2.2.1 q = none → ck_no K2 t B q := fun q hq => by
    refine ⟨fun e => ?_, fun k hk e => ?_⟩
    · rw [e, i2] at hq
      cases hq
    · rw [e, i3 k hk] at hq
      cases hq
  have keep : ∀ q, q < σ.2.2.2.2.1 → σ.2.2.2.1 q = none → σ'.2.2.2.1 q = none ∧ h'.2.2 q = h.2.2 q := fun q h1 h2 => by
    obtain ⟨g1, g2⟩ := b2.2 q h1 (edel_none h2)
    exact ⟨g1, g2 (no_of q h2)⟩
  refine ⟨v, h', hmet, _, ⟨hv, rfl⟩, ⟨b1.1, b1.2.1, (keep a lt_a E_a).2.trans a3, fun k hk => (keep _ (lt_A k hk) (E_A k hk)).2.trans (a4 k hk), a5, fun n c hn => ?_, fun n hn => ?_⟩, b2.1, fun q h1 h2 => ?_⟩
  · have hn' : eput K2 t B σ' n = some c := hn
    by_cases e1 : n = t
    · have h3 : eput K2 t B σ' n = some (.inr (K2.1, K2.2.1 B σ'.1 σ'.2.2.1)) := if_pos e1
      have h4 := h3.symm.trans hn'
      cases h4
      subst e1
      exact ⟨b1.2.2.1, (a6 n _ i2).2⟩
    · cases hx : eix K2 B n with
      | some k =>
        obtain ⟨k1, k2⟩ := eix_some hx
        have h3 : eput K2 t B σ' n = some (.inl (K2.2.2.2 k, K2.2.2.1 k, .inl (σ'.2.1 k))) := by
          unfold eput
          rw [if_neg e1, hx]
        have h4 := h3.symm.trans hn'
        cases h4
        subst k2
        exact ⟨b1.2.2.2.1 k k1, (a6 _ _ (i3 k k1)).2⟩
      | none =>
        have hno : ck_no K2 t B n := ⟨e1, eix_none i1 hx⟩
        have h3 : σ'.2.2.2.1 n = some c := (eput_no hno).symm.trans hn'
        refine ⟨(b1.2.2.2.2.2.1 n c h3).1, fun e => ?_, fun k hk e => ?_⟩
        · subst e
          rw [(keep n lt_a E_a).1] at h3
          cases h3
        · subst e
          rw [(keep _ (lt_A k hk) (E_A k hk)).1] at h3
          cases h3
  · obtain ⟨g1, g2⟩ := b1.2.2.2.2.2.2 n hn
    refine ⟨(eput_no g2).trans g1, fun e => ?_, fun k hk e => ?_⟩
    · have h3 : σ'.2.2.2.2.1 ≤ n := hn
      have h4 : σ.2.2.2.2.1 ≤ σ'.2.2.2.2.1 := b2.1
      omega
    · have h3 : σ'.2.2.2.2.1 ≤ n := hn
      have h4 : σ.2.2.2.2.1 ≤ σ'.2.2.2.2.1 := b2.1
      have h5 := lt_A k hk
      omega
  · obtain ⟨g1, g2⟩ := keep q h1 h2
    exact ⟨(eput_no (no_of q h2)).trans g1, fun _ => g2⟩
end BR
