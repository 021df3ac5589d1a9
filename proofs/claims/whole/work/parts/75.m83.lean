def zPX (lim hi : Nat) (A : Nat → Nat → Int32) (E : ck_E) (k P : Nat) : Prop := ∃ (ni no : Nat) (li lo : Nat → Nat) (β : Nat → Int32) (Γ : Nat → Bool) (a n : Nat) (x : kd_R) (pa : Nat) (fp : Nat → Int32),
  (zPD A k ni no li lo ∧ zPB β ni no li lo ∧ bO β ∧ (∀ j, j < 26 → (Γ j = true ↔ (∃ i, i < ni ∧ li i = j) ∨ (∃ i, i < no ∧ lo i = j))) ∧ egI E P 3 0 = some (A 11 k) ∧ egI E P 3 1 = some (Int32.ofNat ni) ∧ egI E P 3 2 = some (Int32.ofNat no) ∧ egR E P 3 3 = some (some a) ∧ n < 199 ∧ x.1 = (A 16 k, a) ∧ nR A E β n Γ 0 x ∧ A 49 k = Int32.ofNat x.2.1.1 ∧ A 49 (k + 1) = Int32.ofNat x.2.1.2 ∧ x.2.2.2.1 = 0 ∧ A 17 k = Int32.ofNat x.2.2.2.2 ∧ egR E P 3 4 = some (some pa) ∧ E pa = some (.inl (0, x.2.2.2.2, .inl fp)) ∧ (∀ i, i < x.2.2.2.2 → fp i = A 18 (30 * k + i)) ∧ 1 ≤ no ∧ lim ≤ pa) ∧ x.2.2.1.2 ≤ hi ∧ pa < hi ∧ P < hi
theorem PX_R {lim hi k P : Nat} {A : Nat → Nat → Int32} {E : ck_E} (h : zPX lim hi A E k P) : zPR lim A E k P := by
  obtain ⟨ni, no, li, lo, β, Γ, a, n, x, pa, fp, hb, _⟩ := h
  exact ⟨ni, no, li, lo, β, Γ, a, n, x, pa, fp, hb⟩
def HT (sz at_ pr pt : Nat) (σ : gm_S) (c : ck_S) : Prop := AL sz at_ σ c ∧ σ.1 28 = 0 ∧ σ.1 29 = 0 ∧ σ.1 32 = 0 ∧ (σ.1 10 = Int32.ofNat pr ∧ pr ≤ 6) ∧ (σ.1 19 = Int32.ofNat pt ∧ pt ≤ 5 * at_) ∧ fw at_ σ c ∧ frk 3 σ c ∧ frk 4 σ c ∧ σ.2 49 pr = Int32.ofNat pt
def JE (lim sz pr pt : Nat) (σ : gm_S) (c : ck_S) (R : Option (Int32 × gm_S)) (C : Option (Option Nat × ck_S)) : Prop := ∃ r σ' P c', R = some (r, σ') ∧ C = some (some P, c') ∧ rV σ σ' ∧ ((r = 1 ∧ c'.1 9 = c.1 9 ∧ σ'.2 11 = σ.2 11 ∧ rH pr pt σ σ' ∧ (∃ at' pt', HT sz at' (pr + 1) pt' σ' c' ∧ pt ≤ pt') ∧ (noF c' → zPX lim c'.2.2.2.2.1 σ'.2 c'.2.2.2.1 pr P)) ∨ (r = 0 ∧ FB σ' c'))
def cCl (nm ni no : Int32) (b : Option Nat) (c : ck_S) : Option (Option Nat × ck_S) := (match sp_Rd_expect 125 c with
  | none => none
  | some y18 => cFin nm ni no b y18)
def cBd (nm ni no : Int32) (c : ck_S) : Option (Option Nat × ck_S) := (match rb 20 c with
  | none => none
  | some y17 => cCl nm ni no y17.1 y17.2)
def rFn (σ : gm_S) : Option (Int32 × gm_S) := (if gi (σ.1 10) 7 = true then (if gi ((σ.1 10) + 1) 8 = true then some (1, ((upd σ.1 10 ((σ.1 10) + 1)), (gm_up (gm_up σ.2 16 (upd (σ.2 16) (σ.1 10).toNatClampNeg (σ.1 34))) 49 (upd (σ.2 49) ((σ.1 10) + 1).toNatClampNeg (σ.1 19))))) else none) else none)
def rCl (σ : gm_S) : Option (Int32 × gm_S) := (match sp_Md_want 125 σ with
  | none => none
  | some y23 => (if y23.1 = 0 then some (0, y23.2) else rFn y23.2))
def rBd (σ : gm_S) : Option (Int32 × gm_S) := (match rp 20 σ with
  | none => none
  | some y21 => (if y21.1 = 0 then some (0, y21.2) else rCl y21.2))
def rBg (σ : gm_S) : Option (Int32 × gm_S) := (match sp_Md_want 123 σ with
  | none => none
  | some y19 => (if y19.1 = 0 then some (0, y19.2) else rBd y19.2))
theorem cEnd_eq {nm ni no : Int32} {c : ck_S} : cEnd nm ni no c = (match sp_Rd_expect 123 c with
  | none => none
  | some y16 => cBd nm ni no y16) := rfl
section H6
variable {lim sz at_ dp lc tr pr pc sc pt ni no : Nat} {li lo : Nat → Nat} {σ : gm_S} {c : ck_S}
theorem r195 {m : Nat} {v1 : Int32} (hA : AL sz at_ σ c) (hq : q_in (sv sz at_ σ) 97 122 = 0) : sp_Md_readProgram_195 (m + 1) v1 σ = rBg σ := by
  unfold sp_Md_readProgram_195 rBg
  rw [see_a hA]
  simp only
  rw [if_pos hq]
  rfl
def BL (c : ck_S) (C : Option (Option Nat × ck_S)) : Prop := ∃ P c', C = some (some P, c') ∧ c'.2.1 2 1 = c.2.1 2 1
theorem BL_pc {C : Option (Option Nat × ck_S)} (hb : c.2.1 2 1 ≠ 501) (h : PC sz at_ c C) : BL c C := by
  obtain ⟨P, c', _, p1, _, _, p4, _⟩ := h
  exact ⟨P, c', p1, p4.2.2.2.1 hb⟩
theorem cl_b {nm nn no' : Int32} {b : Option Nat} (h : CW sz at_ dp lc tr pc sc c) (hb : c.2.1 2 1 ≠ 501) : BL c (cCl nm nn no' b c) := by
  unfold cCl
  rw [ex_eq (v1 := 125) h, pk_b hb, if_neg (by decide)]
  have hr := CW_R h
  simp only
  obtain ⟨f, f1, _⟩ := fin_eq (nm := nm) (ni := nn) (no := no') (b := b) hr.1
  rw [f1]
  refine ⟨_, _, rfl, ?_⟩
  show (cR c).2.1 2 1 = _
  rw [hr.2.2.2 hb]
theorem bd_b {nm nn no' : Int32} (h : CW sz at_ 0 0 0 0 sc c) (hb : c.2.1 2 1 ≠ 501) : BL c (cBd nm nn no' c) := by
  unfold cBd
  obtain ⟨a, c2, r1, at2, pc2, sc2, r2, _⟩ := rb_BF 20 sz at_ 0 0 0 0 sc c h (fun e => by omega) (by omega) (by omega) (by omega)
  rw [r1]
  simp only
  have e := r2.2.2.2.2.1.2.2.2.2.2.2.1 hb
  obtain ⟨P, c', p1, p2⟩ := cl_b (nm := nm) (nn := nn) (no' := no') (b := some a) r2.1 (by rw [e]; exact hb)
  exact ⟨P, c', p1, p2.trans e⟩
theorem JE_st {C : Option (Option Nat × ck_S)} {c1 : ck_S} {σ1 : gm_S} (hv : rV σ σ1) (hw : at_ ≤ 500) (h27 : σ1.1 27 = Int32.ofNat at_) (h1 : c1.2.1 2 1 = Int32.ofNat at_) (h : BL c1 C) : JE lim sz pr pt σ c (some (0, σ1)) C := by
  obtain ⟨P, c', p1, p2⟩ := h
  exact ⟨0, σ1, P, c', rfl, p1, hv, Or.inr ⟨rfl, p2.trans (h1.trans h27.symm), at_, hw, h27⟩⟩
theorem HQ (h : HB sz at_ pr pt (ni + no) σ c) (hL : HL pr ni no li lo σ c) (h11 : ∀ q, bt (c.1 11) q = decide (q < ni)) : QR sz at_ 0 0 0 pr 0 (ni + no) pt σ c := by
  have ht : ∀ l, l < 26 → (c.2.1 3 l &&& c.1 12 = 0 ↔ c.2.1 3 l = 0) := fun l hl => (HL_told h.1 hL hl).1
  obtain ⟨h1, ⟨a1, a2, a3, a4, a5⟩, h3, h4, h5, h6, h7, h8, h9, h10⟩ := h
  have h26 := CS_26 h1.2.2.2.2.2.2.2.2.2.2.2.2.2.2
  obtain ⟨x1, x2, x3, x4, x5, x6, x7⟩ := hL
  refine ⟨h1, a2, a3, a4, a5, h3, h4, h5, fun i hi => absurd hi (by omega), ⟨h6.1, h6.2.1, h6.2.2, fun _ => by omega, fun i hi => absurd hi (by omega)⟩, h7, ?_, h9, h10, fun l hl => (x7 l hl).trans (ht l hl).symm⟩
  rcases h8 with ⟨e1, e2⟩ | e
  · refine Or.inl ⟨e1, e2, fun l hl => ⟨fun e3 => ?_, fun e3 => ?_⟩⟩
    · rcases x6 l hl (by rw [e3]; decide) with ⟨i, i1, i2⟩ | ⟨i, i1, i2⟩
      · intro e4
        have := bt_az.mp e4 i (by rw [← i2, (x4 i i1).2.2.1, bt_p2 (by omega)]; simp)
        rw [h11] at this
        simp at this
        omega
      · have := (x5 i i1).2.2.2
        rw [i2, e3] at this
        exact absurd this (by decide)
    · have h0 : σ.2 31 l ≠ 0 := fun e4 => e3 (by rw [(x7 l hl).mp e4]; exact and_0)
      rcases x6 l hl h0 with ⟨i, i1, i2⟩ | ⟨i, i1, i2⟩
      · rw [← i2]
        exact (x4 i i1).2.2.2
      · exfalso
        apply e3
        rw [← i2, (x5 i i1).2.2.1]
        apply bt_az.mpr
        intro q hq
        rw [bt_p2 (by omega)] at hq
        have := of_decide_eq_true hq
        rw [h11]
        exact decide_eq_false (by omega)
  · exact Or.inr e
end H6
