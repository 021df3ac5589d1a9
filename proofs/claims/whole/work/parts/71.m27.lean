theorem eix_tk {B : Nat → Nat} {q : Nat} : eix tk_K B q = none := by
  unfold eix
  apply List.find?_eq_none.mpr
  intro k _
  simp [tk_K]
section F1
variable {T : mw_A} {E E' : ck_E} {β : Nat → Int32}
def eF (ci : Nat) (E E' : ck_E) : Prop := ∀ q fs, E q = some (.inr (ci, fs)) → E' q = some (.inr (ci, fs))
theorem eg_fr {ci b k : Nat} {v : Value} (hF : eF ci E E') (h : eg E b ci k = some v) : eg E' b ci k = some v := by
  unfold eg at h ⊢
  split at h
  · next c fs he =>
    by_cases hc : c = ci
    · subst hc
      rw [hF b fs he]
      exact h
    · rw [if_neg hc] at h
      cases h
  · cases h
theorem egI_fr {ci b k : Nat} {v : Int32} (hF : eF ci E E') (h : egI E b ci k = some v) : egI E' b ci k = some v := by
  unfold egI at h ⊢
  split at h
  · next y hy =>
    rw [eg_fr hF hy]
    exact h
  · cases h
theorem egR_fr {ci b k : Nat} {v : Option Nat} (hF : eF ci E E') (h : egR E b ci k = some v) : egR E' b ci k = some v := by
  unfold egR at h ⊢
  split at h
  · next hy =>
    rw [eg_fr hF hy]
    exact h
  · next y hy =>
    rw [eg_fr hF hy]
    exact h
  · cases h
theorem chn_fr (hF : eF 2 E E') : ∀ (l : List (Int32 × Nat)) (q : Int32) (c : Option Nat), chn T E l q c → chn T E' l q c := by
  intro l
  induction l with
  | nil => intro q c hc; exact hc
  | cons y ys ihl =>
    intro q c hc
    obtain ⟨q1, q2, q3, q4, c', q5, q6⟩ := hc
    exact ⟨q1, q2, q3, egI_fr hF q4, c', egR_fr hF q5, ihl _ _ q6⟩
theorem nR_fr (hF : eF 2 E E') : ∀ (n : Nat) (Γ : Nat → Bool) (t : Nat) (x : kd_R), nR T E β n Γ t x → nR T E' β n Γ t x := by
  intro n
  induction n with
  | zero => intro Γ t x hx; exact hx
  | succ n ih =>
    intro Γ t x hx
    obtain ⟨h1, h2, h3, h4, h5, h6, h7, h8, h9, h10, h11, vl, c, kids, k1, k2, k3, k4, k5, k6⟩ := hx
    exact ⟨h1, h2, h3, h4, h5, egI_fr hF h6, egI_fr hF h7, egI_fr hF h8, h9, h10, h11, vl, c, kids, egI_fr hF k1, egR_fr hF k2, chn_fr hF _ _ _ k3, k4, fun y hy => ⟨(k5 y hy).1, (k5 y hy).2.1, (k5 y hy).2.2.1, (k5 y hy).2.2.2.1, (k5 y hy).2.2.2.2.1, ih _ _ _ (k5 y hy).2.2.2.2.2⟩, k6⟩
end F1
def zPR (lim : Nat) (A : Nat → Nat → Int32) (E : ck_E) (k P : Nat) : Prop := ∃ (ni no : Nat) (li lo : Nat → Nat) (β : Nat → Int32) (Γ : Nat → Bool) (a n : Nat) (x : kd_R) (pa : Nat) (fp : Nat → Int32),
  zPD A k ni no li lo ∧ zPB β ni no li lo ∧ bO β ∧ (∀ j, j < 26 → (Γ j = true ↔ (∃ i, i < ni ∧ li i = j) ∨ (∃ i, i < no ∧ lo i = j))) ∧ egI E P 3 0 = some (A 11 k) ∧ egI E P 3 1 = some (Int32.ofNat ni) ∧ egI E P 3 2 = some (Int32.ofNat no) ∧ egR E P 3 3 = some (some a) ∧ n < 199 ∧ x.1 = (A 16 k, a) ∧ nR A E β n Γ 0 x ∧ A 49 k = Int32.ofNat x.2.1.1 ∧ A 49 (k + 1) = Int32.ofNat x.2.1.2 ∧ x.2.2.2.1 = 0 ∧ A 17 k = Int32.ofNat x.2.2.2.2 ∧ egR E P 3 4 = some (some pa) ∧ E pa = some (.inl (0, x.2.2.2.2, .inl fp)) ∧ (∀ i, i < x.2.2.2.2 → fp i = A 18 (30 * k + i)) ∧ 1 ≤ no ∧ lim ≤ pa
section F2
variable {lim : Nat} {A A' : Nat → Nat → Int32} {E E' : ck_E} {k P : Nat}
def eFa (lim : Nat) (E E' : ck_E) : Prop := ∀ q n f, lim ≤ q → E q = some (.inl (0, n, .inl f)) → E' q = some (.inl (0, n, .inl f))
theorem PR_fr (h2 : eF 2 E E') (h3 : eF 3 E E') (ha : eFa lim E E') (hA : ∀ j, (11 ≤ j ∧ j ≤ 26) ∨ j = 49 → A' j = A j) (h : zPR lim A E k P) : zPR lim A' E' k P := by
  obtain ⟨ni, no, li, lo, β, Γ, a, n, x, pa, fp, p1, p2, p3, p4, p5, p6, p7, p8, p9, p10, p11, p12, p13, p14, p15, p16, p17, p18, p19⟩ := h
  have e11 := hA 11 (by omega)
  have e12 := hA 12 (by omega)
  have e13 := hA 13 (by omega)
  have e14 := hA 14 (by omega)
  have e15 := hA 15 (by omega)
  have e16 := hA 16 (by omega)
  have e17 := hA 17 (by omega)
  have e18 := hA 18 (by omega)
  have e49 := hA 49 (by omega)
  refine ⟨ni, no, li, lo, β, Γ, a, n, x, pa, fp, ?_, p2, p3, p4, by rw [e11]; exact egI_fr h3 p5, egI_fr h3 p6, egI_fr h3 p7, egR_fr h3 p8, p9, by rw [e16]; exact p10, nR_cg (fun j q1 q2 => hA j (by omega)) _ _ _ _ (nR_fr h2 _ _ _ _ p11), by rw [e49]; exact p12, by rw [e49]; exact p13, p14, by rw [e17]; exact p15, egR_fr h3 p16, ha _ _ _ p19.2 p17, by rw [e18]; exact p18, p19⟩
  unfold zPD at p1 ⊢
  rw [e12, e13, e14, e15]
  exact p1
theorem PR_go {σ : gm_S} (h : zPR lim σ.2 E k P) (σc : ck_S) (hE : σc.2.2.2.1 = E) {st set : Int32} (hst : sOK (σ.2 25 (σ.2 16 k).toNatClampNeg) st) {ni : Nat} (hni : σ.2 12 k = Int32.ofNat ni) (hn26 : ni ≤ 26) (hset : ∀ q, bt set q = true → q < ni) :
    ∃ how σ' ρ', sp_Md_work (Int32.ofNat k) st set σ = some (how, σ') ∧ sp_Tk_go (some P) st set σc = some (how, (ρ', σc.2)) ∧ (how = 0 ∨ how = 1 ∨ how = 2) ∧ (∀ j, (j < 39 ∨ 43 < j) → σ'.1 j = σ.1 j) ∧ (∀ j, j ≠ 38 → σ'.2 j = σ.2 j) ∧ (how = 0 → ρ' 0 = σ'.1 42 ∧ ρ' 1 = σ'.1 43 ∧ sOK (σ.2 25 (σ.2 16 k).toNatClampNeg) (σ'.1 42)) := by
  obtain ⟨ni', no, li, lo, β, Γ, a, n, x, pa, fp, p1, p2, p3, p4, p5, p6, p7, p8, p9, p10, p11, p12, p13, p14, p15, p16, p17, p18, p19⟩ := h
  have : ni' = ni := by
    have h1 := p1.2.1
    rw [hni] at h1
    have := p1.2.2.2.1
    exact ((eq_N (by omega) (by omega)).mp h1).symm
  subst this
  exact wk_go p1 p2 p3 p4 σc hE p6 p7 p8 p9 p10 p11 hst hset
def tC (ρ : Nat → Int32) : gx_C := .inr (6, tk_fs (fun _ => 0) ρ (fun _ => none))
theorem tk_rd_m {t : Nat} {ρ : Nat → Int32} (h : E t = some (tC ρ)) : ∃ ρ', tk_rd E t = some ρ' ∧ ∀ j, j < 9 → ρ' j = ρ j := by
  unfold tk_rd
  rw [h]
  refine ⟨_, rfl, fun j hj => ?_⟩
  match j, hj with
  | 0, _ => rfl
  | 1, _ => rfl
  | 2, _ => rfl
  | 3, _ => rfl
  | 4, _ => rfl
  | 5, _ => rfl
  | 6, _ => rfl
  | 7, _ => rfl
  | 8, _ => rfl
theorem PR_tk {σ : gm_S} (h : zPR lim σ.2 E k P) (σs : ck_S) (hE : σs.2.2.2.1 = E) {t : Nat} {ρ : Nat → Int32} (ht : E t = some (tC ρ)) {st set : Int32} (hst : sOK (σ.2 25 (σ.2 16 k).toNatClampNeg) st) {ni : Nat} (hni : σ.2 12 k = Int32.ofNat ni) (hn26 : ni ≤ 26) (hset : ∀ q, bt set q = true → q < ni) :
    ∃ how σ' ρ', sp_Md_work (Int32.ofNat k) st set σ = some (how, σ') ∧ sp_tkE t (some P) st set σs = some (how, (σs.1, σs.2.1, σs.2.2.1, eset E t (tC ρ'), σs.2.2.2.2)) ∧ (how = 0 ∨ how = 1 ∨ how = 2) ∧ (∀ j, (j < 39 ∨ 43 < j) → σ'.1 j = σ.1 j) ∧ (∀ j, j ≠ 38 → σ'.2 j = σ.2 j) ∧ (how = 0 → ρ' 0 = σ'.1 42 ∧ ρ' 1 = σ'.1 43 ∧ sOK (σ.2 25 (σ.2 16 k).toNatClampNeg) (σ'.1 42)) := by
  obtain ⟨ρ0, h1, _⟩ := tk_rd_m ht
  have hed : edel E tk_K t (fun _ => 0) = fun q => if q = t then none else E q := by
    funext q
    unfold edel
    rw [eix_tk]
  have hne : ∀ ci, ci ≠ 6 → eF ci E (edel E tk_K t (fun _ => 0)) := by
    intro ci hci q fs hq
    rw [hed]
    have : q ≠ t := fun e => by
      rw [e, ht] at hq
      unfold tC at hq
      injection hq with hq
      injection hq with hq
      injection hq with hq _
      exact hci hq.symm
    show (if q = t then none else E q) = _
    rw [if_neg this]
    exact hq
  have hna : eFa lim E (edel E tk_K t (fun _ => 0)) := by
    intro q n f hlq hq
    rw [hed]
    have : q ≠ t := fun e => by
      rw [e, ht] at hq
      unfold tC at hq
      cases hq
    show (if q = t then none else E q) = _
    rw [if_neg this]
    exact hq
  have h' : zPR lim σ.2 (edel E tk_K t (fun _ => 0)) k P := PR_fr (hne 2 (by decide)) (hne 3 (by decide)) hna (fun _ _ => rfl) h
  obtain ⟨how, σ', ρ', a1, a2, a3⟩ := PR_go h' (ρ0, fun _ _ => 0, fun _ => none, edel E tk_K t (fun _ => 0), σs.2.2.2.2) rfl hst hni hn26 hset
  refine ⟨how, σ', ρ', a1, ?_, a3⟩
  unfold sp_tkE
  rw [hE, h1]
  simp only
  rw [a2]
  simp only
  have hep : eput tk_K t (fun _ => 0) (ρ', fun _ _ => 0, fun _ => none, edel E tk_K t (fun _ => 0), σs.2.2.2.2) = eset E t (tC ρ') := by
    funext q
    unfold eput eset
    by_cases hq : q = t
    · rw [if_pos hq, if_pos hq]
      rfl
    · rw [if_neg hq, if_neg hq, eix_tk]
      simp only
      rw [hed]
      show (if q = t then none else E q) = _
      rw [if_neg hq]
  rw [hep]
end F2
