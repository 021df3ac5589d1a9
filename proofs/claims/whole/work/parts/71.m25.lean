def cn (T : mw_A) (S : Int32) : List (Int32 × Nat) → Nat
  | [] => 0
  | x :: xs => (if T 25 x.1.toNatClampNeg &&& S = 0 then 0 else 1) + cn T S xs
def chT (T : mw_A) : List (Int32 × Nat) → Int32 → Prop
  | [], k => k = -1
  | x :: xs, k => k = x.1 ∧ gi x.1 2600 = true ∧ chT T xs (T 24 x.1.toNatClampNeg)
def okp (T : mw_A) (S : Int32) (q : Nat) : Prop := (T 20 q = 9 ∨ T 20 q = 3) → T 25 q &&& S ≠ 0 → ∀ ks, chT T ks (T 23 q) → cn T S ks ≤ 1
section C1
variable {T : mw_A} {S : Int32} {E : ck_E} {β : Nat → Int32}
theorem chT_of : ∀ (xs : List (Int32 × Nat)) (k : Int32) (c : Option Nat), chn T E xs k c → chT T xs k := by
  intro xs
  induction xs with
  | nil => intro k c h; exact h.1
  | cons x xs ih =>
    intro k c h
    obtain ⟨h1, h2, h3, h4, c', h5, h6⟩ := h
    exact ⟨h1, h3, ih _ _ h6⟩
theorem chT_cn : ∀ (xs ys : List (Int32 × Nat)) (k : Int32), chT T xs k → chT T ys k → cn T S xs = cn T S ys := by
  intro xs
  induction xs with
  | nil =>
    intro ys k h1 h2
    cases ys with
    | nil => rfl
    | cons y ys =>
      have e1 : k = -1 := h1
      obtain ⟨e2, e3, _⟩ := h2
      rw [← e2, e1] at e3
      exact absurd e3 (by decide)
  | cons x xs ih =>
    intro ys k h1 h2
    cases ys with
    | nil =>
      have e1 : k = -1 := h2
      obtain ⟨e2, e3, _⟩ := h1
      rw [← e2, e1] at e3
      exact absurd e3 (by decide)
    | cons y ys =>
      obtain ⟨e1, e2, e3⟩ := h1
      obtain ⟨f1, f2, f3⟩ := h2
      have : x.1 = y.1 := by rw [← e1, ← f1]
      rw [this] at e3
      unfold cn
      rw [this, ih ys _ e3 f3]
theorem pz_mem : ∀ (kids : List kd_R) (u v : Nat), pz kids u v → (∀ y ∈ kids, y.2.2.2.1 ≤ y.2.2.2.2) → ∀ y ∈ kids, u ≤ y.2.2.2.1 ∧ y.2.2.2.2 ≤ v := by
  intro kids
  induction kids with
  | nil => intro u v _ _ y hy; cases hy
  | cons x xs ih =>
    intro u v h hle y hy
    have h1 := hle x (by simp)
    have h2 := pz_le xs _ _ h.2 (fun z hz => hle z (List.mem_cons_of_mem _ hz))
    have h3 := h.1
    rcases List.mem_cons.mp hy with e | e
    · rw [e]
      exact ⟨by omega, by omega⟩
    · have := ih _ _ h.2 (fun z hz => hle z (List.mem_cons_of_mem _ hz)) y e
      omega
theorem nR_in : ∀ (n : Nat) (Γ : Nat → Bool) (t : Nat) (x : kd_R), nR T E β n Γ t x → ∀ q, x.2.1.1 ≤ q → q < x.2.1.2 → (∀ i, bt (T 25 q) i = true → x.2.2.2.1 ≤ i ∧ i < x.2.2.2.2) ∧ (∃ ks, chT T ks (T 23 q) ∧ ks.length ≤ 2600) := by
  intro n
  induction n with
  | zero => intro Γ t x h; exact absurd h id
  | succ n ih =>
    intro Γ t x h q hq1 hq2
    obtain ⟨hp, _, _, _, _, e0, e3, _, _, _, hm, vl, c, kids, e1, e2, hch, hlen, hk, hcov, hz, ho, hkc, ht14⟩ := h
    rcases hcov q hq1 hq2 with e | ⟨y, hy, hy1, hy2⟩
    · rw [e]
      refine ⟨fun i hi => ?_, kids.map (fun y => y.1), chT_of _ _ _ hch, by simp; exact hlen⟩
      rw [hm i] at hi
      exact of_decide_eq_true hi
    · have h1 : T 20 x.1.1.toNatClampNeg ≠ 1 := by
        intro e
        rcases hkc with ⟨hd, hk0⟩ | ⟨hd, hk0, _⟩ | ⟨hd, _⟩ | ⟨hd, _⟩ | ⟨hd, _⟩ | ⟨hd, _⟩ | ⟨hd, _⟩ | ⟨hd, _⟩ | ⟨hd, _⟩ | ⟨hd, _⟩ | ⟨hd, _⟩
        all_goals first | (rw [hd] at e; exact absurd e (by decide)) | skip
        rw [hk0] at hy
        cases hy
      obtain ⟨a1, a2⟩ := ih _ _ y (hk y hy).2.2.2.2.2 q hy1 hy2
      refine ⟨fun i hi => ?_, a2⟩
      obtain ⟨b1, b2⟩ := a1 i hi
      have := pz_mem kids _ _ (hz h1) (fun z hz => nR_uv (hk z hz).2.2.2.2.2) y hy
      omega
theorem nst_31 {f : Nat → Int32 → ck_S → Option (Int32 × ck_S)} {v0 : Nat} {o : Int32} {σ : ck_S} (hE : σ.2.2.2.1 = E) {ok : Int32 × Nat → Prop} : ∀ (xs : List (Int32 × Nat)) (k : Int32) (c : Option Nat) (m : Nat) (an : Int32) (c0 : Nat), chn T E xs k c → xs.length < m → (an = 0 ↔ c0 = 0) → c0 ≤ 1 →
    (∀ y ∈ xs, T 25 y.1.toNatClampNeg &&& S ≠ 0 → (ok y → f y.2 S σ = some (1, σ)) ∧ (¬ ok y → f y.2 S σ = some (0, σ))) →
    (((o ≠ 0 → c0 + cn T S xs ≤ 1) ∧ (∀ y ∈ xs, T 25 y.1.toNatClampNeg &&& S ≠ 0 → ok y)) → sp_Node_canStandAt_31 f v0 m S o an c σ = some (1, σ)) ∧
    (¬ ((o ≠ 0 → c0 + cn T S xs ≤ 1) ∧ (∀ y ∈ xs, T 25 y.1.toNatClampNeg &&& S ≠ 0 → ok y)) → sp_Node_canStandAt_31 f v0 m S o an c σ = some (0, σ)) := by
  intro xs
  induction xs with
  | nil =>
    intro k c m an c0 hc hm han hc0 hf
    obtain ⟨m, rfl⟩ : ∃ q, m = q + 1 := ⟨m - 1, by simp at hm; omega⟩
    obtain ⟨rfl, rfl⟩ := hc
    refine ⟨fun _ => rfl, fun h => absurd ⟨fun _ => ?_, fun y hy => by cases hy⟩ h⟩
    unfold cn
    omega
  | cons x xs ih =>
    intro k c m an c0 hc hm han hc0 hf
    obtain ⟨m, rfl⟩ : ∃ q, m = q + 1 := ⟨m - 1, by simp at hm; omega⟩
    obtain ⟨h1, h2, h3, h4, c', h5, h6⟩ := hc
    subst h1 h2
    have hf' : ∀ y ∈ xs, T 25 y.1.toNatClampNeg &&& S ≠ 0 → (ok y → f y.2 S σ = some (1, σ)) ∧ (¬ ok y → f y.2 S σ = some (0, σ)) := fun y hy => hf y (List.mem_cons_of_mem _ hy)
    by_cases hw : T 25 x.1.toNatClampNeg &&& S = 0
    · obtain ⟨i1, i2⟩ := ih _ c' m an c0 h6 (by simp at hm; omega) han hc0 hf'
      have hstep : sp_Node_canStandAt_31 f v0 (m + 1) S o an (some x.2) σ = sp_Node_canStandAt_31 f v0 m S o an c' σ := by
        conv => lhs; unfold sp_Node_canStandAt_31
        simp only
        rw [hE, if_pos (eo_ofI h4), stands_eq hE h4, if_pos hw]
        simp only [if_true, hE, h5]
      have hcn : cn T S (x :: xs) = cn T S xs := by
        show (if T 25 x.1.toNatClampNeg &&& S = 0 then 0 else 1) + cn T S xs = _
        rw [if_pos hw, Nat.zero_add]
      rw [hstep, hcn]
      refine ⟨fun h => i1 ⟨h.1, fun y hy => h.2 y (List.mem_cons_of_mem _ hy)⟩, fun h => i2 (fun e => h ⟨e.1, fun y hy hs => ?_⟩)⟩
      rcases List.mem_cons.mp hy with e' | e'
      · rw [e'] at hs; exact absurd hw hs
      · exact e.2 y e' hs
    · have hcn : cn T S (x :: xs) = 1 + cn T S xs := by
        show (if T 25 x.1.toNatClampNeg &&& S = 0 then 0 else 1) + cn T S xs = _
        rw [if_neg hw]
      obtain ⟨g1, g2⟩ := hf x (by simp) hw
      obtain ⟨i1, i2⟩ := ih _ c' m 1 1 h6 (by simp at hm; omega) ⟨fun e => absurd e (by decide), fun e => absurd e (by decide)⟩ (by omega) hf'
      have hno : o ≠ 0 → an ≠ 0 → sp_Node_canStandAt_31 f v0 (m + 1) S o an (some x.2) σ = some (0, σ) := by
        intro ho hn
        conv => lhs; unfold sp_Node_canStandAt_31
        simp only
        rw [hE, if_pos (eo_ofI h4), stands_eq hE h4, if_neg hw]
        simp only
        rw [if_neg (by decide), if_neg ho, if_neg hn]
      have hgo : (o = 0 ∨ an = 0) → ∀ r : Int32, f x.2 S σ = some (r, σ) → sp_Node_canStandAt_31 f v0 (m + 1) S o an (some x.2) σ = (if r = 0 then some (0, σ) else sp_Node_canStandAt_31 f v0 m S o 1 c' σ) := by
        intro ho r hr
        conv => lhs; unfold sp_Node_canStandAt_31
        simp only
        rw [hE, if_pos (eo_ofI h4), stands_eq hE h4, if_neg hw]
        simp only
        rw [if_neg (by decide)]
        by_cases h0 : o = 0
        · rw [if_pos h0, hE, if_pos (eo_ofI h4), hr]
          simp only [hE, h5]
        · have han0 : an = 0 := ho.resolve_left h0
          rw [if_neg h0, if_pos han0, hE, if_pos (eo_ofI h4), hr]
          simp only [hE, h5]
      rw [hcn]
      by_cases hoa : o ≠ 0 ∧ an ≠ 0
      · rw [hno hoa.1 hoa.2]
        refine ⟨fun h => ?_, fun _ => rfl⟩
        have := h.1 hoa.1
        have hc1 : c0 ≠ 0 := fun e => hoa.2 (han.mpr e)
        omega
      · have hoa' : o = 0 ∨ an = 0 := by
          by_cases h0 : o = 0
          · exact Or.inl h0
          · by_cases ha : an = 0
            · exact Or.inr ha
            · exact absurd ⟨h0, ha⟩ hoa
        have hc00 : o ≠ 0 → c0 = 0 := fun ho => han.mp (hoa'.resolve_left ho)
        by_cases hok : ok x
        · rw [hgo hoa' 1 (g1 hok), if_neg (by decide)]
          refine ⟨fun h => i1 ⟨fun ho => ?_, fun y hy => h.2 y (List.mem_cons_of_mem _ hy)⟩, fun h => i2 (fun e => h ⟨fun ho => ?_, fun y hy hs => ?_⟩)⟩
          · have := h.1 ho
            have := hc00 ho
            omega
          · have := e.1 ho
            have := hc00 ho
            omega
          · rcases List.mem_cons.mp hy with e' | e'
            · rw [e']; exact hok
            · exact e.2 y e' hs
        · rw [hgo hoa' 0 (g2 hok), if_pos rfl]
          exact ⟨fun h => absurd (h.2 x (by simp) hw) hok, fun _ => rfl⟩
theorem nst_nR {σ : ck_S} (hE : σ.2.2.2.1 = E) : ∀ (n : Nat) (Γ : Nat → Bool) (t : Nat) (x : kd_R), nR T E β n Γ t x → ∀ n2, n < n2 → ((∀ q, x.2.1.1 ≤ q → q < x.2.1.2 → okp T S q) → nst n2 x.1.2 S σ = some (1, σ)) ∧ (¬ (∀ q, x.2.1.1 ≤ q → q < x.2.1.2 → okp T S q) → nst n2 x.1.2 S σ = some (0, σ)) := by
  intro n
  induction n with
  | zero => intro Γ t x h; exact absurd h id
  | succ n ih =>
    intro Γ t x h n2 hn2
    obtain ⟨n2, rfl⟩ : ∃ m, n2 = m + 1 := ⟨n2 - 1, by omega⟩
    have hx := h
    obtain ⟨hp, hlo, hhi, _, _, e0, e3, _, huv, _, hm, vl, c, kids, e1, e2, hch, hlen, hk, hcov, hz, ho, hkc, ht14⟩ := h
    have hN : ∀ y ∈ kids, nR T E β n (gN T Γ x.1.1.toNatClampNeg) (ztN T t x.1.1.toNatClampNeg) y := fun y hy => (hk y hy).2.2.2.2.2
    have hone : ∀ o : Int32, ((T 20 x.1.1.toNatClampNeg = 9 ∨ T 20 x.1.1.toNatClampNeg = 3) ↔ o ≠ 0) → nst (n2 + 1) x.1.2 S σ = sp_Node_canStandAt_31 (nst n2) x.1.2 2601 S o 0 c σ → ((∀ q, x.2.1.1 ≤ q → q < x.2.1.2 → okp T S q) → nst (n2 + 1) x.1.2 S σ = some (1, σ)) ∧ (¬ (∀ q, x.2.1.1 ≤ q → q < x.2.1.2 → okp T S q) → nst (n2 + 1) x.1.2 S σ = some (0, σ)) := by
      intro o hoo heq
      have key := nst_31 (S := S) (f := nst n2) (v0 := x.1.2) (o := o) hE (ok := fun z => ∀ y ∈ kids, y.1 = z → ∀ q, y.2.1.1 ≤ q → q < y.2.1.2 → okp T S q) (kids.map (fun y => y.1)) _ c 2601 0 0 hch (by simp; omega) ⟨fun _ => rfl, fun _ => rfl⟩ (by omega) (by
        intro z hz hs
        obtain ⟨y, hy, rfl⟩ := List.mem_map.mp hz
        have hy2 := ih _ _ y (hN y hy) n2 (by omega)
        refine ⟨fun hok => hy2.1 (hok y hy rfl), fun hno => hy2.2 (fun hall => hno (fun w hw hwe => ?_))⟩
        have hw2 := ih _ _ w (hN w hw) n2 (by omega)
        rw [hwe] at hw2
        intro q q1 q2
        apply Classical.byContradiction
        intro hbad
        have r1 := hy2.1 hall
        have r2 := hw2.2 (fun e => hbad (e q q1 q2))
        rw [r1] at r2
        exact absurd r2 (by simp))
      rw [← heq] at key
      have hiff : ((o ≠ 0 → 0 + cn T S (kids.map (fun y => y.1)) ≤ 1) ∧ (∀ z ∈ kids.map (fun y => y.1), T 25 z.1.toNatClampNeg &&& S ≠ 0 → ∀ y ∈ kids, y.1 = z → ∀ q, y.2.1.1 ≤ q → q < y.2.1.2 → okp T S q)) ↔ (∀ q, x.2.1.1 ≤ q → q < x.2.1.2 → okp T S q) := by
        constructor
        · rintro ⟨a1, a2⟩ q hq1 hq2
          rcases hcov q hq1 hq2 with e | ⟨y, hy, hy1, hy2⟩
          · rw [e]
            intro hop hst ks hks
            have := a1 (hoo.mp hop)
            rw [chT_cn ks _ _ hks (chT_of _ _ _ hch)]
            omega
          · by_cases hys : T 25 y.1.1.toNatClampNeg &&& S = 0
            · intro hop hst
              exfalso
              obtain ⟨i, _, hi⟩ := bt_nz hst
              rw [bt_and, Bool.and_eq_true] at hi
              have := (nR_in _ _ _ _ (hN y hy) q hy1 hy2).1 i hi.1
              have h2 := bt_az.mp hys i (by rw [nR_mask (hN y hy) i]; exact decide_eq_true this)
              rw [hi.2] at h2
              cases h2
            · exact a2 y.1 (List.mem_map_of_mem hy) hys y hy rfl q hy1 hy2
        · intro hall
          refine ⟨fun h0 => ?_, fun z hz hs y hy hyz q q1 q2 => hall q ?_ ?_⟩
          · by_cases hst : T 25 x.1.1.toNatClampNeg &&& S = 0
            · -- it does not stand: no part of it does
              have : cn T S (kids.map (fun y => y.1)) = 0 := by
                have h1 : T 20 x.1.1.toNatClampNeg ≠ 1 := by
                  rcases hoo.mpr h0 with e | e <;> (rw [e]; decide)
                have hz' := hz h1
                have hin := pz_mem kids _ _ hz' (fun z hz => nR_uv (hN z hz))
                have : ∀ l : List kd_R, (∀ y ∈ l, y ∈ kids) → cn T S (l.map (fun y => y.1)) = 0 := by
                  intro l
                  induction l with
                  | nil => intro _; rfl
                  | cons w ws ihw =>
                    intro hl
                    show (if T 25 w.1.1.toNatClampNeg &&& S = 0 then 0 else 1) + cn T S (ws.map (fun y => y.1)) = 0
                    have hw := hl w (by simp)
                    rw [ihw (fun y hy => hl y (List.mem_cons_of_mem _ hy)), if_pos]
                    apply bt_az.mpr
                    intro i hi
                    rw [nR_mask (hN w hw) i] at hi
                    have hb := of_decide_eq_true hi
                    have hu := hin w hw
                    exact bt_az.mp hst i (by rw [hm i]; exact decide_eq_true (by omega))
                exact this kids (fun _ h => h)
              omega
            · have := hall x.1.1.toNatClampNeg hlo hhi (hoo.mpr h0) hst _ (chT_of _ _ _ hch)
              omega
          · have := (hk y hy).1
            omega
          · have := (hk y hy).2.1
            omega
      exact ⟨fun h => key.1 (hiff.mpr h), fun h => key.2 (fun e => h (hiff.mp e))⟩
    have hns : nst (n2 + 1) x.1.2 S σ = sp_Node_canStandAt (nst n2) x.1.2 S σ := rfl
    by_cases h9 : T 20 x.1.1.toNatClampNeg = 9
    · refine hone 1 ⟨fun _ => by decide, fun _ => Or.inl h9⟩ ?_
      rw [hns]
      unfold sp_Node_canStandAt
      rw [hE, e0]
      simp only
      rw [if_pos h9, e2]
    · by_cases h3 : T 20 x.1.1.toNatClampNeg = 3
      · refine hone 1 ⟨fun _ => by decide, fun _ => Or.inr h3⟩ ?_
        rw [hns]
        unfold sp_Node_canStandAt
        rw [hE, e0]
        simp only
        rw [if_neg h9, if_pos h3, e2]
      · refine hone 0 ⟨fun h => by rcases h with e | e; exact absurd e h9; exact absurd e h3, fun h => absurd rfl h⟩ ?_
        rw [hns]
        unfold sp_Node_canStandAt
        rw [hE, e0]
        simp only
        rw [if_neg h9, if_neg h3, e2]
end C1
