section H5
variable {sz at_ dp lc tr pr pc sc pt ni no : Nat} {li lo : Nat → Nat} {σ : gm_S} {c : ck_S}
theorem sig_step {v : Int32} {l : Nat} (hv : v = 1 ∧ no = 0 ∨ v = 2) (hl : l < 26) (hlt : at_ < sz) (h : HB sz at_ pr pt (ni + no) σ c) (hL : HL pr ni no li lo σ c) (hsv : sv sz at_ σ = Int32.ofNat (l + 97)) (hpk : pk sz at_ c = Int32.ofNat (l + 97)) : ∃ σ' s c1 ni' no' li' lo', sp_Md_tell v σ = some σ' ∧ sp_Rd_readNewSignal c = some (s, c1) ∧ HS v sz at_ pr pt ni no σ c (at_ + 1) ni' no' li' lo' σ' (upd c1.1 12 (c.1 12 ||| s), c1.2) := by
  by_cases h0 : σ.2 31 l = 0
  · rcases hv with ⟨e, e0⟩ | e
    · subst e
      subst e0
      obtain ⟨c1, s, a1, a2, a3⟩ := tell_1 hl hlt h hL hsv hpk h0
      exact ⟨_, s, c1, _, _, _, _, a1, a2, a3⟩
    · subst e
      obtain ⟨c1, s, a1, a2, a3⟩ := tell_2 hl hlt h hL hsv hpk h0
      exact ⟨_, s, c1, _, _, _, _, a1, a2, a3⟩
  · obtain ⟨c1, s, a1, a2, a3⟩ := tell_o (v := v) hl hlt h hL hsv hpk h0
    exact ⟨_, s, c1, _, _, _, _, a1, a2, a3⟩
theorem HS_rf {v : Int32} (h : HB sz at_ pr pt (ni + no) σ c) (hL : HL pr ni no li lo σ c) : HS v sz at_ pr pt ni no σ c at_ ni no li lo σ c := ⟨h, hL, rH_rf, TF_rf, rfl, rfl, fun _ => rfl, fun _ => rfl, Nat.le_refl _, Nat.le_refl _, rfl, rfl, fun _ _ _ => rfl, rfl, fun _ _ e => by omega⟩
theorem HS_tr {v : Int32} {at1 ni1 no1 at2 ni2 no2 : Nat} {li1 lo1 li2 lo2 : Nat → Nat} {σ1 σ2 : gm_S} {c1 c2 : ck_S} (h : HS v sz at_ pr pt ni no σ c at1 ni1 no1 li1 lo1 σ1 c1) (k : HS v sz at1 pr pt ni1 no1 σ1 c1 at2 ni2 no2 li2 lo2 σ2 c2) : HS v sz at_ pr pt ni no σ c at2 ni2 no2 li2 lo2 σ2 c2 := by
  obtain ⟨a1, a2, a3, a4, a5, a6, a7, a8, a9, a10, a11, a12, a13, a14, a15⟩ := h
  obtain ⟨b1, b2, b3, b4, b5, b6, b7, b8, b9, b10, b11, b12, b13, b14, b15⟩ := k
  refine ⟨b1, b2, rH_tr a3 b3, TF_tr a4 b4, b5.trans a5, b6.trans a6, fun e => (b7 e).trans (a7 e), fun e => (b8 e).trans (a8 e), by omega, by omega, b11.trans a11, b12.trans a12, fun j x y => (b13 j x y).trans (a13 j x y), b14.trans a14, fun e0 e1 e2 => ?_⟩
  by_cases hq : at_ < at1
  · have e3 : c1.2.1 2 2 = 501 := Classical.byContradiction fun hn => b4.2.2.2.2.1 2 (by decide) (by decide) hn e0
    have := a15 e3 e1 hq
    omega
  · have := b15 e0 e1 (by omega)
    omega
theorem letA (hw : CW sz at_ dp lc tr pc sc c) (h : AL sz at_ σ c) (hq : ¬ q_in (sv sz at_ σ) 97 122 = 0) : at_ < sz ∧ ∃ l, l < 26 ∧ sv sz at_ σ = Int32.ofNat (l + 97) ∧ pk sz at_ c = Int32.ofNat (l + 97) := by
  have hq' : ¬ q_in (pk sz at_ c) 97 122 = 0 := fun e => hq ((sv_qa h (by decide)).mpr e)
  obtain ⟨_, hl, l, l1, l2, l3⟩ := let_in hw hq'
  exact ⟨hl, l, l1, (sv_ia h (by omega) (by omega)).mpr l2, l2⟩
theorem sigs_j {v v0 : Int32} {L : Nat → gm_S → Option (Int32 × gm_S)} (hL : ∀ m σ y s, sp_Md_see σ = some (y, σ) → ¬ q_in y 97 122 = 0 → sp_Md_tell v σ = some s → L (m + 1) σ = L m s) (hv : v = 1 ∨ v = 2) : ∀ (d m m' at_ ni no v2 : Nat) (li lo : Nat → Nat) (σ : gm_S) (c : ck_S), HB sz at_ pr pt (ni + no) σ c → HL pr ni no li lo σ c → (v = 1 → no = 0) → sz - at_ ≤ d → d < m → d < m' → v2 ≤ at_ → ∃ m2 at' ni' no' li' lo' σ' c', L m σ = L (m2 + 1) σ' ∧ sp_Rd_readSignals_7 m' v0 (Int32.ofNat v2) c = some (c'.1 10 - v0, c') ∧ HS v sz at_ pr pt ni no σ c at' ni' no' li' lo' σ' c' ∧ q_in (sv sz at' σ') 97 122 = 0 ∧ (at_ < at' ∨ q_in (sv sz at_ σ) 97 122 = 0) := by
  intro d
  induction d with
  | zero =>
    intro m m' at_ ni no v2 li lo σ c h hl hn hd hm hm' hv2
    obtain ⟨m, rfl⟩ : ∃ j, m = j + 1 := ⟨m - 1, by omega⟩
    obtain ⟨m', rfl⟩ : ∃ j, m' = j + 1 := ⟨m' - 1, by omega⟩
    have hs : sz ≤ 500 := h.1.2.1
    have hsv : q_in (sv sz at_ σ) 97 122 = 0 := by
      by_cases hq : q_in (sv sz at_ σ) 97 122 = 0
      · exact hq
      · have := (letA h.1 h.2.1 hq).1
        omega
    refine ⟨m, at_, ni, no, li, lo, σ, c, rfl, ?_, HS_rf h hl, hsv, Or.inr hsv⟩
    unfold sp_Rd_readSignals_7
    by_cases h5 : (500 : Int32) ≤ Int32.ofNat v2
    · rw [if_pos h5]
    · rw [if_neg h5, sl_eq h.1]
      simp only
      rw [if_pos ((sv_qa h.2.1 (by decide)).mp hsv)]
  | succ d ih =>
    intro m m' at_ ni no v2 li lo σ c h hl hn hd hm hm' hv2
    obtain ⟨m, rfl⟩ : ∃ j, m = j + 1 := ⟨m - 1, by omega⟩
    obtain ⟨m', rfl⟩ : ∃ j, m' = j + 1 := ⟨m' - 1, by omega⟩
    have hs : sz ≤ 500 := h.1.2.1
    by_cases hq : q_in (sv sz at_ σ) 97 122 = 0
    · refine ⟨m, at_, ni, no, li, lo, σ, c, rfl, ?_, HS_rf h hl, hq, Or.inr hq⟩
      unfold sp_Rd_readSignals_7
      by_cases h5 : (500 : Int32) ≤ Int32.ofNat v2
      · rw [if_pos h5]
      · rw [if_neg h5, sl_eq h.1]
        simp only
        rw [if_pos ((sv_qa h.2.1 (by decide)).mp hq)]
    · obtain ⟨hlt, l, l1, l2, l3⟩ := letA h.1 h.2.1 hq
      obtain ⟨σ1, s, c1, ni1, no1, li1, lo1, t1, t2, t3⟩ := sig_step (v := v) (by
        rcases hv with e | e
        · exact Or.inl ⟨e, hn e⟩
        · exact Or.inr e) l1 hlt h hl l2 l3
      obtain ⟨m2, at2, ni2, no2, li2, lo2, σ2, c2, r1, r2, r3, r4, _⟩ := ih m m' (at_ + 1) ni1 no1 (v2 + 1) li1 lo1 σ1 _ t3.1 t3.2.1 (fun e => by rw [t3.2.2.2.2.2.2.1 e, hn e]) (by omega) (by omega) (by omega) (by omega)
      refine ⟨m2, at2, ni2, no2, li2, lo2, σ2, c2, ?_, ?_, HS_tr t3 r3, r4, Or.inl (by have := r3.2.2.2.2.2.2.2.2.2.1; omega)⟩
      · rw [hL m σ _ _ (see_a h.2.1) hq t1]
        exact r1
      · unfold sp_Rd_readSignals_7
        rw [if_neg (show ¬ ((500 : Int32) ≤ Int32.ofNat v2) from fun e => by have := (le_N (a := 500) (by decide) (by omega)).mp e; omega), sl_eq h.1]
        simp only
        rw [if_neg (fun e => hq ((sv_qa h.2.1 (by decide)).mpr e)), t2]
        simp only
        rw [ofN_s]
        exact r2
end H5
