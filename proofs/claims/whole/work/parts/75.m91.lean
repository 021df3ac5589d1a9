def eB (lim hi : Nat) (E E' : ck_E) : Prop := (∀ q fs, q < hi → E q = some (.inr (2, fs)) → E' q = some (.inr (2, fs))) ∧ (∀ q fs, q < hi → E q = some (.inr (3, fs)) → E' q = some (.inr (3, fs))) ∧ (∀ q n f, lim ≤ q → q < hi → E q = some (.inl (0, n, .inl f)) → E' q = some (.inl (0, n, .inl f)))
def eN (lim : Nat) (E : ck_E) (q : Nat) : Prop := (∀ fs, E q ≠ some (.inr (2, fs))) ∧ (∀ fs, E q ≠ some (.inr (3, fs))) ∧ (q < lim ∨ ∀ n f, E q ≠ some (.inl (0, n, .inl f)))
section V1
variable {lim hi hi' k P : Nat} {A A' : Nat → Nat → Int32} {E E' E'' : ck_E}
theorem eB_of (h : ∀ q, q < hi → E' q = E q ∨ eN lim E q) : eB lim hi E E' := by
  refine ⟨fun q fs hq e => ?_, fun q fs hq e => ?_, fun q n f hl hq e => ?_⟩
  · rcases h q hq with h1 | h1
    · rw [h1]; exact e
    · exact absurd e (h1.1 fs)
  · rcases h q hq with h1 | h1
    · rw [h1]; exact e
    · exact absurd e (h1.2.1 fs)
  · rcases h q hq with h1 | h1
    · rw [h1]; exact e
    · rcases h1.2.2 with h2 | h2
      · omega
      · exact absurd e (h2 n f)
theorem eB_tr (hh : hi ≤ hi') (h : eB lim hi E E') (h' : eB lim hi' E' E'') : eB lim hi E E'' := ⟨fun q fs hq e => h'.1 q fs (by omega) (h.1 q fs hq e), fun q fs hq e => h'.2.1 q fs (by omega) (h.2.1 q fs hq e), fun q n f hl hq e => h'.2.2 q n f hl (by omega) (h.2.2 q n f hl hq e)⟩
theorem eB_rf : eB lim hi E E := ⟨fun _ _ _ e => e, fun _ _ _ e => e, fun _ _ _ _ _ e => e⟩
theorem PX_B (hb : eB lim hi E E') (hA : ∀ j, (11 ≤ j ∧ j ≤ 26) ∨ j = 49 → A' j = A j) (hh : hi ≤ hi') (h : zPX lim hi A E k P) : zPX lim hi' A' E' k P := by
  have h1 : zPX lim hi A (fun q => if q < hi then E q else none) k P := PX_lo (fun q hq => if_pos hq) (fun _ _ => rfl) rfl (fun _ _ => ⟨rfl, rfl⟩) (fun _ _ => rfl) (fun _ _ _ _ _ _ _ _ => rfl) (Nat.le_refl _) h
  have key : ∀ q z, (fun q => if q < hi then E q else none) q = some z → q < hi ∧ E q = some z := by
    intro q z e
    have e' : (if q < hi then E q else none) = some z := e
    by_cases hq : q < hi
    · rw [if_pos hq] at e'
      exact ⟨hq, e'⟩
    · rw [if_neg hq] at e'
      cases e'
  refine PX_fr (fun q fs e => ?_) (fun q fs e => ?_) (fun q n f hl e => ?_) hA hh h1
  · obtain ⟨k1, k2⟩ := key q _ e
    exact hb.1 q fs k1 k2
  · obtain ⟨k1, k2⟩ := key q _ e
    exact hb.2.1 q fs k1 k2
  · obtain ⟨k1, k2⟩ := key q _ e
    exact hb.2.2 q n f hl k1 k2
end V1
def RC (n0 : Nat) (E : ck_E) (r : Nat → Int32) (T : Nat → Nat → Int32) (g : Nat → Option Nat) : Prop := E n0 = some (.inr (4, rd_fs (fun j => n0 + 1 + j) r (fun _ => some (n0 + 1)))) ∧ E (n0 + 1) = some (.inl (4, 6, .inr (.inr (.inr (.inr g))))) ∧ (∀ j, 1 ≤ j → j ≤ 5 → E (n0 + 1 + j) = some (.inl (rd_kd j, rd_ln j, .inl (T j))))
def skR (n0 : Nat) (k9 k10 : Option Nat) : Nat → Option Nat := fun j => if j = 0 then some (n0 + 9) else if j = 9 then k9 else k10
def SC (n0 : Nat) (E : ck_E) (r : Nat → Int32) (T : Nat → Nat → Int32) (k9 k10 : Option Nat) : Prop := E (n0 + 8) = some (.inr (5, sk_fs (fun j => n0 + 9 + j) r (skR n0 k9 k10))) ∧ (∃ ρ, E (n0 + 9) = some (tC ρ)) ∧ (∀ j, 1 ≤ j → j ≤ 5 → E (n0 + 9 + j) = some (.inl (0, sk_ln j, .inl (T j))))
def iR (n0 q : Nat) : Prop := q = n0 ∨ (n0 + 2 ≤ q ∧ q ≤ n0 + 6)
def iS (n0 q : Nat) : Prop := q = n0 + 8 ∨ (n0 + 10 ≤ q ∧ q ≤ n0 + 14)
section V2
variable {n0 : Nat} {E : ck_E} {r : Nat → Int32} {T : Nat → Nat → Int32} {g : Nat → Option Nat} {k9 k10 : Option Nat}
theorem rl_nz {k : Nat} (h : rd_ln k ≠ 0) : 1 ≤ k ∧ k ≤ 5 := by
  match k with
  | 0 => exact absurd rfl h
  | 1 => omega
  | 2 => omega
  | 3 => omega
  | 4 => omega
  | 5 => omega
  | k + 6 => exact absurd rfl h
theorem sl_nz {k : Nat} (h : sk_ln k ≠ 0) : 1 ≤ k ∧ k ≤ 5 := by
  match k with
  | 0 => exact absurd rfl h
  | 1 => omega
  | 2 => omega
  | 3 => omega
  | 4 => omega
  | 5 => omega
  | k + 6 => exact absurd rfl h
theorem exS_1 {K : ck_K} {B : Nat → Nat} {q k : Nat} (hk : k < 20) (h0 : K.2.2.1 k ≠ 0) (hq : q = B k) (hd : ∀ j, K.2.2.1 j ≠ 0 → B j = q → j = k) : eix K B q = some k := by
  unfold eix
  have hex : ((List.range 20).find? (fun k => !(Nat.beq (K.2.2.1 k) 0) && Nat.beq q (B k))).isSome = true := by
    rw [List.find?_isSome]
    refine ⟨k, List.mem_range.mpr hk, ?_⟩
    rw [hq, Nat.beq_refl, Bool.and_true]
    cases hb : Nat.beq (K.2.2.1 k) 0
    · rfl
    · exact absurd (Nat.eq_of_beq_eq_true hb) h0
  cases hf : (List.range 20).find? (fun k => !(Nat.beq (K.2.2.1 k) 0) && Nat.beq q (B k)) with
  | none => rw [hf] at hex; cases hex
  | some j =>
    have hp := List.find?_some hf
    simp only [Bool.and_eq_true] at hp
    have h1 : K.2.2.1 j ≠ 0 := fun e => by
      rw [e] at hp
      cases hp.1
    rw [hd j h1 (Nat.eq_of_beq_eq_true hp.2).symm]
theorem exN_1 {K : ck_K} {B : Nat → Nat} {q : Nat} (hd : ∀ j, K.2.2.1 j ≠ 0 → B j ≠ q) : eix K B q = none := by
  unfold eix
  rw [List.find?_eq_none]
  intro j _ hp
  simp only [Bool.and_eq_true] at hp
  have h1 : K.2.2.1 j ≠ 0 := fun e => by
    rw [e] at hp
    cases hp.1
  exact hd j h1 (Nat.eq_of_beq_eq_true hp.2).symm
theorem rd_in (h : RC n0 E r T g) : (∀ j, 1 ≤ j → j ≤ 5 → in_B E n0 j = n0 + 1 + j) ∧ (∀ j, 6 ≤ j → j ≤ 16 → in_r E n0 j = r j) ∧ in_k E n0 0 = some (n0 + 1) ∧ (∀ j, 1 ≤ j → j ≤ 5 → in_t E n0 j = T j) ∧ ck_In rd_K n0 (in_B E n0) (in_r E n0) (in_t E n0) (in_k E n0) E := by
  obtain ⟨h1, h2, h3⟩ := h
  have hB : ∀ j, 1 ≤ j → j ≤ 5 → in_B E n0 j = n0 + 1 + j := by
    intro j j1 j5
    unfold in_B in_k
    rw [h1]
    match j, j1, j5 with
    | 1, _, _ => rfl
    | 2, _, _ => rfl
    | 3, _, _ => rfl
    | 4, _, _ => rfl
    | 5, _, _ => rfl
  have hr : ∀ j, 6 ≤ j → j ≤ 16 → in_r E n0 j = r j := by
    intro j j1 j5
    unfold in_r
    rw [h1]
    have : j = 6 ∨ j = 7 ∨ j = 8 ∨ j = 9 ∨ j = 10 ∨ j = 11 ∨ j = 12 ∨ j = 13 ∨ j = 14 ∨ j = 15 ∨ j = 16 := by omega
    rcases this with rfl | rfl | rfl | rfl | rfl | rfl | rfl | rfl | rfl | rfl | rfl <;> rfl
  have hk : in_k E n0 0 = some (n0 + 1) := by
    unfold in_k
    rw [h1]
    rfl
  have ht : ∀ j, 1 ≤ j → j ≤ 5 → in_t E n0 j = T j := by
    intro j j1 j5
    unfold in_t
    rw [hB j j1 j5, h3 j j1 j5]
  refine ⟨hB, hr, hk, ht, fun k hk => by have := rl_nz hk; omega, ?_, fun k hk => ?_, fun k j hk hj e => ?_⟩
  · rw [h1]
    show some (Sum.inr (4, rd_fs _ _ _)) = some (Sum.inr (4, rd_fs _ _ _))
    unfold rd_fs
    rw [hB 1 (by decide) (by decide), hB 2 (by decide) (by decide), hB 3 (by decide) (by decide), hB 4 (by decide) (by decide), hB 5 (by decide) (by decide), hk, hr 6 (by decide) (by decide), hr 7 (by decide) (by decide), hr 8 (by decide) (by decide), hr 9 (by decide) (by decide), hr 10 (by decide) (by decide), hr 11 (by decide) (by decide), hr 12 (by decide) (by decide), hr 13 (by decide) (by decide), hr 14 (by decide) (by decide), hr 15 (by decide) (by decide), hr 16 (by decide) (by decide)]
  · have := rl_nz hk
    rw [hB k this.1 this.2, ht k this.1 this.2]
    exact h3 k this.1 this.2
  · have a1 := rl_nz hk
    have a2 := rl_nz hj
    rw [hB k a1.1 a1.2, hB j a2.1 a2.2] at e
    omega
theorem rd_eix (h : RC n0 E r T g) {q : Nat} : (∀ j, 1 ≤ j → j ≤ 5 → q = n0 + 1 + j → eix rd_K (in_B E n0) q = some j) ∧ ((q < n0 + 2 ∨ n0 + 6 < q) → eix rd_K (in_B E n0) q = none) := by
  obtain ⟨hB, _⟩ := rd_in h
  constructor
  · intro j j1 j5 e
    have hnz : rd_ln j ≠ 0 := by
      match j, j1, j5 with
      | 1, _, _ => decide
      | 2, _, _ => decide
      | 3, _, _ => decide
      | 4, _, _ => decide
      | 5, _, _ => decide
    refine exS_1 (by omega) hnz (by rw [hB j j1 j5]; exact e) (fun i hi e' => ?_)
    have := rl_nz hi
    rw [hB i this.1 this.2] at e'
    omega
  · intro hq
    refine exN_1 (fun i hi e' => ?_)
    have := rl_nz hi
    rw [hB i this.1 this.2] at e'
    omega
theorem rd_del (h : RC n0 E r T g) {q : Nat} : (¬ iR n0 q → edel E rd_K n0 (in_B E n0) q = E q) := by
  intro hq
  unfold iR at hq
  unfold edel
  rw [if_neg (by omega), (rd_eix h).2 (by omega)]
theorem rd_put (h : RC n0 E r T g) (c : ck_S) : (∀ q, ¬ iR n0 q → eput rd_K n0 (in_B E n0) c q = c.2.2.2.1 q) ∧ (c.2.2.1 0 = some (n0 + 1) → ∀ g', c.2.2.2.1 (n0 + 1) = some (.inl (4, 6, .inr (.inr (.inr (.inr g'))))) → RC n0 (eput rd_K n0 (in_B E n0) c) c.1 c.2.1 g') := by
  obtain ⟨hB, _⟩ := rd_in h
  have a1 : ∀ q, ¬ iR n0 q → eput rd_K n0 (in_B E n0) c q = c.2.2.2.1 q := by
    intro q hq
    unfold iR at hq
    unfold eput
    rw [if_neg (by omega), (rd_eix h).2 (by omega)]
  refine ⟨a1, fun hk g' hg => ⟨?_, ?_, fun j j1 j5 => ?_⟩⟩
  · unfold eput
    rw [if_pos rfl]
    show some (Sum.inr (4, rd_fs _ _ _)) = some (Sum.inr (4, rd_fs _ _ _))
    unfold rd_fs
    rw [hB 1 (by decide) (by decide), hB 2 (by decide) (by decide), hB 3 (by decide) (by decide), hB 4 (by decide) (by decide), hB 5 (by decide) (by decide), hk]
  · rw [a1 _ (by unfold iR; omega)]
    exact hg
  · unfold eput
    rw [if_neg (by omega), (rd_eix h).1 j j1 j5 rfl]
    rfl
theorem sk_vw (h : SC n0 E r T k9 k10) : (∀ j, 1 ≤ j → j ≤ 5 → in_B E (n0 + 8) j = n0 + 9 + j) ∧ (∀ j, (6 ≤ j ∧ j ≤ 8) ∨ (11 ≤ j ∧ j ≤ 13) → in_r E (n0 + 8) j = r j) ∧ in_k E (n0 + 8) 0 = some (n0 + 9) ∧ in_k E (n0 + 8) 9 = k9 ∧ in_k E (n0 + 8) 10 = k10 ∧ (∀ j, 1 ≤ j → j ≤ 5 → in_t E (n0 + 8) j = T j) ∧ ck_In sk_K (n0 + 8) (in_B E (n0 + 8)) (in_r E (n0 + 8)) (in_t E (n0 + 8)) (in_k E (n0 + 8)) E := by
  obtain ⟨h1, h2, h3⟩ := h
  have hB : ∀ j, 1 ≤ j → j ≤ 5 → in_B E (n0 + 8) j = n0 + 9 + j := by
    intro j j1 j5
    unfold in_B in_k
    rw [h1]
    match j, j1, j5 with
    | 1, _, _ => rfl
    | 2, _, _ => rfl
    | 3, _, _ => rfl
    | 4, _, _ => rfl
    | 5, _, _ => rfl
  have hr : ∀ j, (6 ≤ j ∧ j ≤ 8) ∨ (11 ≤ j ∧ j ≤ 13) → in_r E (n0 + 8) j = r j := by
    intro j hj
    unfold in_r
    rw [h1]
    have : j = 6 ∨ j = 7 ∨ j = 8 ∨ j = 11 ∨ j = 12 ∨ j = 13 := by omega
    rcases this with rfl | rfl | rfl | rfl | rfl | rfl <;> rfl
  have hk : in_k E (n0 + 8) 0 = some (n0 + 9) := by
    unfold in_k
    rw [h1]
    rfl
  have hk9 : in_k E (n0 + 8) 9 = k9 := by
    unfold in_k
    rw [h1]
    cases k9 <;> rfl
  have hk10 : in_k E (n0 + 8) 10 = k10 := by
    unfold in_k
    rw [h1]
    cases k10 <;> rfl
  have ht : ∀ j, 1 ≤ j → j ≤ 5 → in_t E (n0 + 8) j = T j := by
    intro j j1 j5
    unfold in_t
    rw [hB j j1 j5, h3 j j1 j5]
  refine ⟨hB, hr, hk, hk9, hk10, ht, fun k hk => by have := sl_nz hk; omega, ?_, fun k hk => ?_, fun k j hk hj e => ?_⟩
  · rw [h1]
    show some (Sum.inr (5, sk_fs _ _ _)) = some (Sum.inr (5, sk_fs _ _ _))
    unfold sk_fs
    rw [hB 1 (by decide) (by decide), hB 2 (by decide) (by decide), hB 3 (by decide) (by decide), hB 4 (by decide) (by decide), hB 5 (by decide) (by decide), hk, hk9, hk10, hr 6 (by decide), hr 7 (by decide), hr 8 (by decide), hr 11 (by decide), hr 12 (by decide), hr 13 (by decide)]
    rfl
  · have := sl_nz hk
    rw [hB k this.1 this.2, ht k this.1 this.2]
    exact h3 k this.1 this.2
  · have a1 := sl_nz hk
    have a2 := sl_nz hj
    rw [hB k a1.1 a1.2, hB j a2.1 a2.2] at e
    omega
theorem sk_eix (h : SC n0 E r T k9 k10) {q : Nat} : (∀ j, 1 ≤ j → j ≤ 5 → q = n0 + 9 + j → eix sk_K (in_B E (n0 + 8)) q = some j) ∧ ((q < n0 + 10 ∨ n0 + 14 < q) → eix sk_K (in_B E (n0 + 8)) q = none) := by
  obtain ⟨hB, _⟩ := sk_vw h
  constructor
  · intro j j1 j5 e
    have hnz : sk_ln j ≠ 0 := by
      match j, j1, j5 with
      | 1, _, _ => decide
      | 2, _, _ => decide
      | 3, _, _ => decide
      | 4, _, _ => decide
      | 5, _, _ => decide
    refine exS_1 (by omega) hnz (by rw [hB j j1 j5]; exact e) (fun i hi e' => ?_)
    have := sl_nz hi
    rw [hB i this.1 this.2] at e'
    omega
  · intro hq
    refine exN_1 (fun i hi e' => ?_)
    have := sl_nz hi
    rw [hB i this.1 this.2] at e'
    omega
theorem sk_del (h : SC n0 E r T k9 k10) {q : Nat} : (¬ iS n0 q → edel E sk_K (n0 + 8) (in_B E (n0 + 8)) q = E q) := by
  intro hq
  unfold iS at hq
  unfold edel
  rw [if_neg (by omega), (sk_eix h).2 (by omega)]
theorem sk_put (h : SC n0 E r T k9 k10) (c : ck_S) : (∀ q, ¬ iS n0 q → eput sk_K (n0 + 8) (in_B E (n0 + 8)) c q = c.2.2.2.1 q) ∧ (c.2.2.1 0 = some (n0 + 9) → (∃ ρ, c.2.2.2.1 (n0 + 9) = some (tC ρ)) → SC n0 (eput sk_K (n0 + 8) (in_B E (n0 + 8)) c) c.1 c.2.1 (c.2.2.1 9) (c.2.2.1 10)) := by
  obtain ⟨hB, _⟩ := sk_vw h
  have a1 : ∀ q, ¬ iS n0 q → eput sk_K (n0 + 8) (in_B E (n0 + 8)) c q = c.2.2.2.1 q := by
    intro q hq
    unfold iS at hq
    unfold eput
    rw [if_neg (by omega), (sk_eix h).2 (by omega)]
  refine ⟨a1, fun hk ⟨ρ, hρ⟩ => ⟨?_, ⟨ρ, ?_⟩, fun j j1 j5 => ?_⟩⟩
  · unfold eput
    rw [if_pos rfl]
    show some (Sum.inr (5, sk_fs _ _ _)) = some (Sum.inr (5, sk_fs _ _ _))
    unfold sk_fs
    rw [hB 1 (by decide) (by decide), hB 2 (by decide) (by decide), hB 3 (by decide) (by decide), hB 4 (by decide) (by decide), hB 5 (by decide) (by decide), hk]
    rfl
  · rw [a1 _ (by unfold iS; omega)]
    exact hρ
  · unfold eput
    rw [if_neg (by omega), (sk_eix h).1 j j1 j5 rfl]
    rfl
end V2
