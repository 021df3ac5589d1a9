abbrev tw_G : Type := Option Nat → Int32 → Int32 → ck_S → Option (Int32 × ck_S)
def TW (E : ck_E) (β : Nat → Int32) (S th mi : Int32) (g : tw_G) (a : Option Nat) (b s r : Int32) (Dm Dc : Nat → Bool) : Prop :=
  ∀ σ : ck_S, σ.2.2.2.1 = E → σ.1 2 = S → σ.1 3 = th → σ.1 4 = mi → ∃ m c : Int32, g a b s σ = some (r, (upd (upd σ.1 5 m) 6 c, σ.2)) ∧ (∀ j, j < 26 → nz β m j = (nz β (σ.1 5) j || Dm j)) ∧ (∀ j, j < 26 → nz β c j = (nz β (σ.1 6) j || Dc j))
def ckk (m c : Int64) : Prop := b16 (co m) ∧ b16 (co c) ∧ am1 (co m) ∧ zsub (co m) (co c)
def Kn (β : Nat → Int32) (Γ : Nat → Bool) (K : Nat → Int32) (th mi : Int32) : Prop := ∀ j, j < 26 → (Γ j = true → (K j = 0 ∨ K j = 1 ∨ K j = 2) ∧ nz β th j = decide (K j = 1) ∧ nz β mi j = decide (K j = 2)) ∧ (Γ j = false → nz β th j = false ∧ nz β mi j = false)
def WS (T : mw_A) (S : Int32) (E : ck_E) (β : Nat → Int32) (f : mw_F) (g : tw_G) (Γ : Nat → Bool) (p : Int32) (a : Nat) : Prop :=
  ∀ K th mi, Kn β Γ K th mi → ∀ res b : Int32, (res = 0 ∧ b = 1 ∨ res = 1 ∧ b = 0 ∧ T 25 p.toNatClampNeg &&& S ≠ 0) →
    (∃ xm xc, f false p res 0 K = some xm ∧ f true p res 1 K = some xc ∧ ckk xm xc ∧ TW E β S th mi g (some a) b 1 (q_Codes_pair (co xm) (co xc)) (sg xm) (sg xc)) ∧
    (∃ xc, f true p res 0 K = some xc ∧ b16 (co xc) ∧ TW E β S th mi g (some a) b 0 (q_Codes_pair 0 (co xc)) (fun _ => false) (sg xc))
def chn (T : mw_A) (E : ck_E) : List (Int32 × Nat) → Int32 → Option Nat → Prop
  | [], k, c => k = -1 ∧ c = none
  | x :: xs, k, c => k = x.1 ∧ c = some x.2 ∧ gi x.1 2600 = true ∧ egI E x.2 2 3 = some (T 25 x.1.toNatClampNeg) ∧ ∃ c', egR E x.2 2 5 = some c' ∧ chn T E xs (T 24 x.1.toNatClampNeg) c'
section W1
variable {T : mw_A} {S : Int32} {E : ck_E} {β : Nat → Int32} {f : mw_F} {g : tw_G} {Γ : Nat → Bool} {th mi : Int32} {K : Nat → Int32} {σ : ck_S}
theorem gi_n1 {k : Int32} (h : gi k 2600 = true) : k ≠ -1 := fun e => by
  rw [e] at h
  revert h
  decide
theorem eo_ofI {b ci k : Nat} {x : Int32} (h : egI E b ci k = some x) : eo E b ci = true := by
  unfold egI at h
  split at h
  · next y hy =>
    unfold eg at hy
    split at hy
    · next c fs he =>
      by_cases hc : c = ci
      · have h1 : eo E b ci = decide (c = ci) := by
          unfold eo
          rw [he]
        rw [h1]
        exact decide_eq_true hc
      · rw [if_neg hc] at hy
        cases hy
    · cases hy
  · cases h
theorem st_up {σ : ck_S} {m c : Int32} : ((upd (upd σ.1 5 m) 6 c, σ.2) : ck_S).1 2 = σ.1 2 ∧ ((upd (upd σ.1 5 m) 6 c, σ.2) : ck_S).1 3 = σ.1 3 ∧ ((upd (upd σ.1 5 m) 6 c, σ.2) : ck_S).1 4 = σ.1 4 ∧ ((upd (upd σ.1 5 m) 6 c, σ.2) : ck_S).1 5 = m ∧ ((upd (upd σ.1 5 m) 6 c, σ.2) : ck_S).1 6 = c := ⟨rfl, rfl, rfl, rfl, rfl⟩
theorem up56 {r : Nat → Int32} {m c m' c' : Int32} : upd (upd (upd (upd r 5 m) 6 c) 5 m') 6 c' = upd (upd r 5 m') 6 c' := by
  funext j
  unfold upd
  by_cases h5 : j = 5 <;> by_cases h6 : j = 6 <;> simp [h5, h6]
theorem stands_eq {b : Nat} {w S : Int32} (hE : σ.2.2.2.1 = E) (h : egI E b 2 3 = some w) : sp_Node_standsIn b S σ = some (if w &&& S = 0 then 0 else 1, σ) := by
  unfold sp_Node_standsIn
  rw [hE, h]
  by_cases hc : w &&& S = 0
  · simp [hc]
  · simp [hc]
theorem fo_pt {v0 : Nat} : ∀ (xs : List (Int32 × Nat)) (k : Int32) (c : Option Nat) (N N' : Nat), chn T E xs k c → xs.length < N → xs.length < N' → (∃ x ∈ xs, T 25 x.1.toNatClampNeg &&& S ≠ 0) → σ.2.2.2.1 = E →
    ∃ pre x post c', xs = pre ++ x :: post ∧ mw_fo T S 1 N k = some x.1 ∧ sp_Node_partThatStands_5 v0 N' S c σ = some (some x.2, σ) ∧ T 25 x.1.toNatClampNeg &&& S ≠ 0 ∧ gi x.1 2600 = true ∧ egR E x.2 2 5 = some c' ∧ chn T E post (T 24 x.1.toNatClampNeg) c' ∧ (∀ y ∈ pre, T 25 y.1.toNatClampNeg &&& S = 0) := by
  intro xs
  induction xs with
  | nil => intro k c N N' _ _ _ h; obtain ⟨x, hx, _⟩ := h; cases hx
  | cons x xs ih =>
    intro k c N N' hc hN hN' hs hE
    obtain ⟨h1, h2, h3, h4, c', h5, h6⟩ := hc
    obtain ⟨N, rfl⟩ : ∃ M, N = M + 1 := ⟨N - 1, by simp at hN; omega⟩
    obtain ⟨N', rfl⟩ : ∃ M, N' = M + 1 := ⟨N' - 1, by simp at hN'; omega⟩
    subst h1 h2
    by_cases hw : T 25 x.1.toNatClampNeg &&& S = 0
    · have hs' : ∃ y ∈ xs, T 25 y.1.toNatClampNeg &&& S ≠ 0 := by
        obtain ⟨y, hy, hq⟩ := hs
        rcases List.mem_cons.mp hy with e | e
        · subst e; exact absurd hw hq
        · exact ⟨y, e, hq⟩
      obtain ⟨pre, y, post, c'', e1, e2, e3, e4, e5, e6, e7, e8⟩ := ih _ _ N N' h6 (by simp at hN; omega) (by simp at hN'; omega) hs' hE
      refine ⟨x :: pre, y, post, c'', by rw [e1]; rfl, ?_, ?_, e4, e5, e6, e7, fun z hz => (List.mem_cons.mp hz).elim (fun e => e ▸ hw) (e8 z)⟩
      · unfold mw_fo
        rw [if_neg (by decide), if_pos h3, if_pos hw]
        exact e2
      · unfold sp_Node_partThatStands_5
        simp only [hE, eo_ofI h4, if_true]
        rw [stands_eq hE h4, if_pos hw]
        simp only [hE, h5, if_true]
        exact e3
    · refine ⟨[], x, xs, c', rfl, ?_, ?_, hw, h3, h5, h6, fun _ h => nomatch h⟩
      · unfold mw_fo
        rw [if_neg (by decide), if_pos h3, if_neg hw]
      · unfold sp_Node_partThatStands_5
        simp only [hE, eo_ofI h4, if_true]
        rw [stands_eq hE h4, if_neg hw]
        simp
end W1
