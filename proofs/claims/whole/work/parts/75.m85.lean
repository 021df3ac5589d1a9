section H8
variable {lim sz at_ dp lc tr pr pc sc pt ni no : Nat} {li lo : Nat → Nat} {σ : gm_S} {c : ck_S}
theorem JE_W {σ1 : gm_S} {c1 : ck_S} {R : Option (Int32 × gm_S)} {C : Option (Option Nat × ck_S)} (hr : rH pr pt σ σ1) (h9 : c1.1 9 = c.1 9) (h11 : σ1.2 11 = σ.2 11) (h : JE lim sz pr pt σ1 c1 R C) : JE lim sz pr pt σ c R C := by
  obtain ⟨r, σ', P, c', e1, e2, e3, e4⟩ := h
  refine ⟨r, σ', P, c', e1, e2, rV_tr hr.1 e3, ?_⟩
  rcases e4 with ⟨a1, a2, a3, a4, a5, a6⟩ | e
  · exact Or.inl ⟨a1, a2.trans h9, a3.trans h11, rH_tr hr a4, a5, a6⟩
  · exact Or.inr e
theorem L195 {v1 : Int32} : ∀ (m : Nat) (σ : gm_S) (y : Int32) (s : gm_S), sp_Md_see σ = some (y, σ) → ¬ q_in y 97 122 = 0 → sp_Md_tell 2 σ = some s → sp_Md_readProgram_195 (m + 1) v1 σ = sp_Md_readProgram_195 m v1 s := by
  intro m σ y s h1 h2 h3
  rw [sp_Md_readProgram_195, h1]
  simp only
  rw [if_neg h2, h3]
theorem L148 {v1 : Int32} : ∀ (m : Nat) (σ : gm_S) (y : Int32) (s : gm_S), sp_Md_see σ = some (y, σ) → ¬ q_in y 97 122 = 0 → sp_Md_tell 1 σ = some s → sp_Md_readProgram_148 (m + 1) v1 σ = sp_Md_readProgram_148 m v1 s := by
  intro m σ y s h1 h2 h3
  rw [sp_Md_readProgram_148, h1]
  simp only
  rw [if_neg h2, h3]
theorem out_j {v1 : Int32} (h : HB sz at_ pr pt (ni + 0) σ c) (hL : HL pr ni 0 li lo σ c) (h11 : ∀ q, bt (c.1 11) q = decide (q < ni)) (hpt : pt ≤ 5 * at_) (h49 : σ.2 49 pr = Int32.ofNat pt) (hlim : lim ≤ c.2.2.2.2.1) (hq : ¬ q_in (sv sz at_ σ) 97 122 = 0) : JE lim sz pr pt σ c (sp_Md_readProgram_195 2601 v1 σ) (cOut (σ.2 11 pr) (Int32.ofNat ni) c) := by
  have hs : sz ≤ 500 := h.1.2.1
  have h10 : c.1 10 = Int32.ofNat (ni + 0) := h.1.2.2.2.2.2.2.2.2.2.2.2.2.2.2.1
  obtain ⟨m2, at', ni', no', li', lo', σ', c', r1, r2, r3, r4, r5⟩ := sigs_j (L := fun m σ => sp_Md_readProgram_195 m v1 σ) (v := 2) (v0 := c.1 10) L195 (Or.inr rfl) sz 2601 2601 at_ ni 0 0 li lo σ c h hL (fun _ => rfl) (by omega) (by omega) (by omega) (by omega)
  have r1' : sp_Md_readProgram_195 2601 v1 σ = sp_Md_readProgram_195 (m2 + 1) v1 σ' := r1
  have r2' : sp_Rd_readSignals c = some (c'.1 10 - c.1 10, c') := r2
  obtain ⟨a1, a2, a3, a4, a5, a6, a7, a8, a9, a10, a11, a12, a13, a14, a15⟩ := r3
  have hni : ni' = ni := a8 rfl
  subst hni
  have h10' : c'.1 10 = Int32.ofNat (ni' + no') := a1.1.2.2.2.2.2.2.2.2.2.2.2.2.2.2.1
  rw [r1', r195 a1.2.1 r4]
  unfold cOut
  rw [r2']
  simp only
  rw [h10', h10, ofN_sub (by omega), show ni' + no' - (ni' + 0) = no' by omega, ← a12]
  exact JE_W a3 a11 a12 (end_j a1 a2 (by rw [a6]; exact h11) (by omega) (by rw [a14]; exact h49) (fun e => by
    rcases r5 with h1 | h1
    · have := a15 e rfl h1
      omega
    · exact absurd h1 hq) (by rw [a5]; exact hlim))
theorem arr_j {v1 : Int32} {m : Nat} (h : HB sz at_ pr pt (ni + 0) σ c) (hL : HL pr ni 0 li lo σ c) (h11 : ∀ q, bt (c.1 11) q = decide (q < ni)) (hpt : pt ≤ 5 * at_) (h49 : σ.2 49 pr = Int32.ofNat pt) (hlim : lim ≤ c.2.2.2.2.1) (hq : q_in (sv sz at_ σ) 97 122 = 0) : JE lim sz pr pt σ c (sp_Md_readProgram_148 (m + 1) v1 σ) (cArr (σ.2 11 pr) (Int32.ofNat ni) c) := by
  have hs : sz ≤ 500 := h.1.2.1
  have ha : at_ ≤ sz := h.1.2.2.2.1
  have hA := h.2.1
  rw [sp_Md_readProgram_148, see_a hA]
  simp only
  rw [if_pos hq, want_a hA]
  unfold cArr
  rw [ex_eq (v1 := 41) h.1]
  simp only
  have hiff : sv sz at_ σ = 41 ↔ pk sz at_ c = 41 := sv_ia hA (x := 41) (by decide) (by decide)
  by_cases hp : sv sz at_ σ = 41
  · rw [if_pos hp, if_pos (hiff.mp hp)]
    simp only
    rw [if_neg (by decide)]
    have hlt : at_ < sz := by
      rcases sv_a hA with ⟨e, _⟩ | ⟨_, e, _⟩
      · exact e
      · rw [e] at hp
        exact absurd hp (by decide)
    have h1 := HB_P h hlt
    have hA1 := h1.2.1
    rw [see_a hA1, sl_eq h1.1]
    simp only
    have hq1 := sv_qa hA1 (lo := 97) (hi := 122) (by decide)
    by_cases hq2 : q_in (sv sz (at_ + 1) (mP σ)) 97 122 = 0
    · rw [if_pos hq2, if_pos (hq1.mp hq2), rf_eq]
      have hr := CW_R h1.1
      exact JE_st (c1 := cR (cP c)) rV_P (by omega) hA1.2.2.2.1 (hr.2.2.1 hA1.2.1) (BL_pc hr.2.1 (out_c hr.1))
    · rw [if_neg hq2, if_neg (fun e => hq2 (hq1.mpr e))]
      exact JE_W (c1 := cP c) (rH_U (rU_P (pc := 0) (tr := 0))) rfl rfl (out_j h1 hL h11 (by omega) h49 hlim hq2)
  · rw [if_neg hp, if_neg (fun e => hp (hiff.mpr e))]
    simp only
    rw [if_pos trivial]
    have hr := CW_R h.1
    have hb := hr.2.1
    rw [sl_eq hr.1, pk_b hb]
    simp only
    rw [if_pos (by decide), rf_eq]
    have hr2 := CW_R hr.1
    have e2 : cR (cR c) = cR c := hr.2.2.2 |> fun _ => hr2.2.2.2 hb
    rw [e2]
    exact JE_st (c1 := cR c) rV_rf (by omega) hA.2.2.2.1 (hr.2.2.1 hA.2.1) (BL_pc hb (out_c hr.1))
def rIn (v1 : Int32) (σ : gm_S) : Option (Int32 × gm_S) := (match sp_Md_want 40 σ with
  | none => none
  | some y9 => (if y9.1 = 0 then some (0, y9.2) else sp_Md_readProgram_148 2601 v1 y9.2))
theorem in_j {v1 : Int32} (h : HB sz at_ pr pt (0 + 0) σ c) (hL : HL pr 0 0 li lo σ c) (hpt : pt ≤ 5 * at_) (h49 : σ.2 49 pr = Int32.ofNat pt) (hlim : lim ≤ c.2.2.2.2.1) : JE lim sz pr pt σ c (rIn v1 σ) (cIn (σ.2 11 pr) c) := by
  have hs : sz ≤ 500 := h.1.2.1
  have ha : at_ ≤ sz := h.1.2.2.2.1
  have hA := h.2.1
  unfold rIn cIn
  rw [want_a hA, ex_eq (v1 := 40) h.1]
  simp only
  have hiff : sv sz at_ σ = 40 ↔ pk sz at_ c = 40 := sv_ia hA (x := 40) (by decide) (by decide)
  by_cases hp : sv sz at_ σ = 40
  · rw [if_pos hp, if_pos (hiff.mp hp)]
    simp only
    rw [if_neg (by decide)]
    have hlt : at_ < sz := by
      rcases sv_a hA with ⟨e, _⟩ | ⟨_, e, _⟩
      · exact e
      · rw [e] at hp
        exact absurd hp (by decide)
    have h1 := HB_P h hlt
    have h10 : (cP c).1 10 = Int32.ofNat (0 + 0) := h1.1.2.2.2.2.2.2.2.2.2.2.2.2.2.2.1
    obtain ⟨m2, at', ni', no', li', lo', σ', c', r1, r2, r3, r4, r5⟩ := sigs_j (L := fun m σ => sp_Md_readProgram_148 m v1 σ) (v := 1) (v0 := (cP c).1 10) L148 (Or.inl rfl) sz 2601 2601 (at_ + 1) 0 0 0 li lo (mP σ) (cP c) h1 hL (fun _ => rfl) (by omega) (by omega) (by omega) (by omega)
    have r1' : sp_Md_readProgram_148 2601 v1 (mP σ) = sp_Md_readProgram_148 (m2 + 1) v1 σ' := r1
    have r2' : sp_Rd_readSignals (cP c) = some (c'.1 10 - (cP c).1 10, c') := r2
    obtain ⟨a1, a2, a3, a4, a5, a6, a7, a8, a9, a10, a11, a12, a13, a14, a15⟩ := r3
    have hno : no' = 0 := a7 rfl
    subst hno
    have h10' : c'.1 10 = Int32.ofNat (ni' + 0) := a1.1.2.2.2.2.2.2.2.2.2.2.2.2.2.2.1
    rw [r1', r2']
    simp only
    rw [h10', h10, ofN_sub (by omega), show ni' + 0 - (0 + 0) = ni' by omega]
    have e11 : σ'.2 11 = σ.2 11 := a12
    rw [← e11]
    have hw : CW sz at' 0 0 0 0 (ni' + 0) (upd c'.1 11 (c'.1 12), c'.2) := CW_11 a1.1.2.2.2.2.2.2.2.2.2.2.2.2.2.2.2.2.1 a1.1
    have h' : HB sz at' pr pt (ni' + 0) σ' (upd c'.1 11 (c'.1 12), c'.2) := HB_cc (c := c') hw rfl rfl a1
    exact JE_W (c1 := (upd c'.1 11 (c'.1 12), c'.2)) (rH_tr (rH_U (rU_P (pc := 0) (tr := 0))) a3) a11 e11 (arr_j h' a2 a2.2.2.1 (by omega) (by rw [a14]; exact h49) (by show lim ≤ c'.2.2.2.2.1; rw [a5]; exact hlim) r4)
  · rw [if_neg hp, if_neg (fun e => hp (hiff.mpr e))]
    simp only
    rw [if_pos trivial]
    have hr := CW_R h.1
    have hb := hr.2.1
    obtain ⟨at', sc', c', r1, r2, r3, r4, r5⟩ := sigs_c (v0 := (cR c).1 10) sz 2601 at_ (0 + 0) 0 (cR c) hr.1 (by omega) (by omega) (by omega)
    have e : sp_Rd_readSignals (cR c) = some (c'.1 10 - (cR c).1 10, c') := r1
    rw [e]
    simp only
    have hb' : c'.2.1 2 1 = (cR c).2.1 2 1 := r4.2.2.2.1 hb
    have hw : CW sz at' 0 0 0 0 sc' (upd c'.1 11 (c'.1 12), c'.2) := CW_11 r2.2.2.2.2.2.2.2.2.2.2.2.2.2.2.2.2.1 r2
    exact JE_st (c1 := (upd c'.1 11 (c'.1 12), c'.2)) rV_rf (by omega) hA.2.2.2.1 (hb'.trans (hr.2.2.1 hA.2.1)) (BL_pc (by show c'.2.1 2 1 ≠ 501; rw [hb']; exact hb) (arr_c hw))
end H8
