def NM (pr : Nat) (σ : gm_S) (c : ck_S) : Prop := ∀ n, n < 6 → (bt (c.1 9) n = true ↔ ∃ i, i < pr ∧ σ.2 11 i = Int32.ofNat (65 + n))
def JG (lim sz pr pt : Nat) (σ : gm_S) (c : ck_S) (R : Option (Int32 × gm_S)) (C : Option (Option Nat × ck_S)) : Prop := ∃ r σ' P c', R = some (r, σ') ∧ C = some (some P, c') ∧ rV σ σ' ∧ ((r = 1 ∧ NM (pr + 1) σ' c' ∧ rH pr pt σ σ' ∧ (∃ at' pt', HT sz at' (pr + 1) pt' σ' c' ∧ pt ≤ pt') ∧ (noF c' → zPX lim c'.2.2.2.2.1 σ'.2 c'.2.2.2.1 pr P)) ∨ (r = 0 ∧ FB σ' c'))
section H10
variable {lim sz at_ dp lc tr pr pc sc pt ni no : Nat} {li lo : Nat → Nat} {σ : gm_S} {c : ck_S}
theorem mN_30 {k w : Nat} {σ1 : gm_S} (h : σ1.2 30 = σ.2 30) : (mN k w σ1).2 30 = (mN k w σ).2 30 := by
  unfold mN
  rw [h]
  by_cases h1 : σ.2 30 k = -1
  · rw [if_pos h1, if_pos h1]; rfl
  · rw [if_neg h1, if_neg h1]
    by_cases h2 : σ.2 30 k ≤ Int32.ofNat w
    · rw [if_pos h2, if_pos h2]; exact h
    · rw [if_neg h2, if_neg h2]; rfl
theorem q6570 {ch : Nat} (h2 : ch ≤ 126) (h : ¬ q_in (Int32.ofNat ch) 65 70 = 0) : ∃ n, n < 6 ∧ ch = 65 + n := by
  unfold q_in at h
  by_cases a : Int32.ofNat ch < 65
  · rw [if_pos a] at h
    exact absurd rfl h
  · rw [if_neg a] at h
    by_cases b : 70 < Int32.ofNat ch
    · rw [if_pos b] at h
      exact absurd rfl h
    · have a' : ¬ (ch < 65) := fun e => a ((lt_N (b := 65) (by omega) (by decide)).mpr e)
      have b' : ¬ (70 < ch) := fun e => b ((lt_N (a := 70) (by decide) (by omega)).mpr e)
      exact ⟨ch - 65, by omega, by omega⟩
theorem sub65 {n : Nat} (h : n < 6) : Int32.ofNat (65 + n) - 65 = Int32.ofNat n := by
  have h1 : ∀ q : Fin 6, Int32.ofNat (65 + q.1) - 65 = Int32.ofNat q.1 := by decide
  exact h1 ⟨n, h⟩
theorem and_p2 {x : Int32} {n : Nat} (h : n < 32) : (x &&& ((1 : Int32) <<< (Int32.ofNat n &&& 31)) = 0 ↔ ¬ (bt x n = true)) := by
  rw [bt_az]
  constructor
  · intro k e
    have := k n e
    rw [bt_p2 h] at this
    simp at this
  · intro k i hi
    rw [bt_p2 h]
    apply decide_eq_false
    intro e
    exact k (by rw [← e]; exact hi)
def nbS (pr : Nat) (x : Int32) (f : Nat → Int32) (σ : gm_S) : gm_S := (upd σ.1 27 (σ.1 27 + 1), gm_up (gm_up (gm_up (gm_up (gm_up σ.2 11 (upd (σ.2 11) pr x)) 12 (upd (σ.2 12) pr 0)) 14 (upd (σ.2 14) pr 0)) 17 (upd (σ.2 17) pr 0)) 31 f)
theorem r27e {m : Nat} (hA : AL sz at_ σ c) (h10 : σ.1 10 = Int32.ofNat pr) (hp : pr < 6) : ∃ f, sp_Md_readProgram_27 (m + 1) (Int32.ofNat pr) σ = rIn 26 (nbS pr (sv sz at_ σ) f σ) ∧ ∀ i, i < 26 → f i = 0 := by
  obtain ⟨m2, f, f1, f2, _⟩ := r118 26 2601 (upd σ.1 27 (σ.1 27 + 1), gm_up (gm_up (gm_up (gm_up σ.2 11 (upd (σ.2 11) pr (sv sz at_ σ))) 12 (upd (σ.2 12) pr 0)) 14 (upd (σ.2 14) pr 0)) 17 (upd (σ.2 17) pr 0)) (Nat.le_refl _) (by decide)
  refine ⟨f, ?_, fun i hi => f2 i (by omega) hi⟩
  rw [sp_Md_readProgram_27, h10, if_pos ((le_N (by omega) (by omega)).mpr (Nat.le_refl _)), see_a hA]
  simp only
  rw [h10, if_pos (gi_of (by omega) (by decide)), if_pos (gi_of (by omega) (by decide)), cl_of (by omega)]
  have f1' := f1
  rw [show Int32.ofNat (26 - 26) = 0 from rfl, r118e] at f1'
  exact f1'
theorem rH_nb {x : Int32} {f : Nat → Int32} : rH pr pt σ (nbS pr x f σ) := by
  have e11 : ∀ i, (nbS pr x f σ).2 11 i = upd (σ.2 11) pr x i := fun i => rfl
  have e12 : ∀ i, (nbS pr x f σ).2 12 i = upd (σ.2 12) pr 0 i := fun i => rfl
  have e14 : ∀ i, (nbS pr x f σ).2 14 i = upd (σ.2 14) pr 0 i := fun i => rfl
  have e17 : ∀ i, (nbS pr x f σ).2 17 i = upd (σ.2 17) pr 0 i := fun i => rfl
  have eo : ∀ j, j ≠ 11 → j ≠ 12 → j ≠ 14 → j ≠ 17 → j ≠ 31 → (nbS pr x f σ).2 j = σ.2 j := fun j a1 a2 a3 a4 a5 => by
    show gm_up (gm_up (gm_up (gm_up (gm_up _ _ _) _ _) _ _) _ _) _ _ j = _
    unfold gm_up
    rw [if_neg a5, if_neg a4, if_neg a3, if_neg a2, if_neg a1]
  exact ⟨⟨fun j a _ _ _ _ _ _ _ => upd_ne a, fun j a _ b2 _ _ => eo j (by omega) (by omega) (by omega) (by omega) b2, rfl⟩, fun i hi => ⟨by rw [e11, upd_ne (by omega)], by rw [e12, upd_ne (by omega)], by rw [e14, upd_ne (by omega)], rfl, by rw [e17, upd_ne (by omega)]⟩, fun i _ => rfl, fun i _ => ⟨rfl, rfl⟩, fun i _ => rfl, fun j q a b _ => by rw [eo j (by omega) (by omega) (by omega) (by omega) (by omega)]⟩
theorem HB_nb {x : Int32} {f : Nat → Int32} {c1 : ck_S} (hpr : pr < 6) (h : HT sz at_ pr pt σ c) (hw : CW sz at_ 0 0 0 0 0 c1) (h1 : c1.2.1 1 = c.2.1 1) (h2 : c1.2.1 2 = c.2.1 2) (hl : at_ < sz) : HB sz (at_ + 1) pr pt 0 (nbS pr x f σ) (cP c1) := by
  obtain ⟨⟨a1, a2, a3, a4, a5⟩, h3, h4, h5, h6, h7, h8, h9, h10, h11⟩ := h
  have b : HB sz at_ pr pt 0 (σ.1, gm_up σ.2 17 (upd (σ.2 17) pr 0)) c1 := ⟨hw, ⟨CW_T hw, by rw [h2]; exact a2, a3, a4, by rw [h1]; exact a5⟩, h3, h4, h5, ⟨h6.1, hpr, (upd_eq : upd (σ.2 17) pr 0 pr = 0)⟩, h7.1, fw_c rfl (by rw [h2]) h8, frk_c rfl (by rw [h2]) h9, frk_c rfl (by rw [h2]) h10⟩
  exact HB_m (σ := mP (σ.1, gm_up σ.2 17 (upd (σ.2 17) pr 0))) rfl rfl rfl rfl (HB_P b hl)
theorem HL_nb {x : Int32} {f : Nat → Int32} {c1 : ck_S} (hf : ∀ i, i < 26 → f i = 0) (h12 : c1.1 12 = 0) (h3 : ∀ l, l < 26 → c1.2.1 3 l = 0) : HL pr 0 0 li lo (nbS pr x f σ) c1 := by
  refine ⟨(upd_eq : upd (σ.2 12) pr 0 pr = 0), (upd_eq : upd (σ.2 14) pr 0 pr = 0), fun q => by rw [h12, bt_0]; rfl, fun i hi => absurd hi (by omega), fun i hi => absurd hi (by omega), fun l hl h0 => absurd (hf l hl) h0, fun l hl => ⟨fun _ => h3 l hl, fun _ => hf l hl⟩⟩
theorem full6 (h : HT sz at_ 6 pt σ c) : sp_Md_readProgram σ = some (0, σ) := by
  unfold sp_Md_readProgram
  rw [see_a h.1]
  simp only
  by_cases hq : q_in (sv sz at_ σ) 65 70 = 0
  · rw [if_pos hq]
  · rw [if_neg hq, if_pos (show σ.1 10 = 6 from h.2.2.2.2.1.1)]
theorem prog_j (h : HT sz at_ pr pt σ c) (hn : NM pr σ c) (hpr : pr < 6) (hlim : lim ≤ c.2.2.2.2.1) : JG lim sz pr pt σ c (sp_Md_readProgram σ) (sp_Rd_readProgram c) := by
  have hA := h.1
  have hs : sz ≤ 500 := hA.1.2.1
  have ha : at_ ≤ sz := hA.1.2.2.2.1
  obtain ⟨c1, s1, s2, s3, s4, s5, s6, s7, s8⟩ := start_eq hA.1
  have e1 : c1.2.1 1 = c.2.1 1 := s7 1 (by decide)
  have e2 : c1.2.1 2 = c.2.1 2 := s7 2 (by decide)
  have hpk : pk sz at_ c1 = pk sz at_ c := by
    unfold pk
    rw [e1, e2]
  rw [cPg_eq]
  unfold cPg
  rw [s1]
  simp only
  rw [name_eq s2, hpk]
  unfold sp_Md_readProgram
  rw [see_a hA]
  simp only
  have hqi := sv_qa hA (lo := 65) (hi := 70) (by decide)
  by_cases hq : q_in (sv sz at_ σ) 65 70 = 0
  · rw [if_pos hq, if_pos (hqi.mp hq)]
    simp only
    have hr := CW_R s2
    obtain ⟨P, c', p1, p2⟩ := BL_pc hr.2.1 (in_c (nm := -1) hr.1)
    exact ⟨0, σ, P, c', rfl, p1, rV_rf, Or.inr ⟨rfl, p2.trans ((hr.2.2.1 (by rw [e2]; exact hA.2.1)).trans hA.2.2.2.1.symm), at_, by omega, hA.2.2.2.1⟩⟩
  · have h10 : σ.1 10 = Int32.ofNat pr := h.2.2.2.2.1.1
    rw [if_neg hq, if_neg (fun e => hq (hqi.mpr e)), h10, if_neg (show ¬ (Int32.ofNat pr = 6) from fun e => by have := (eq_N (b := 6) (by omega) (by decide)).mp e; omega)]
    simp only
    rcases sv_a hA with ⟨hlt, ch, g1, g2, g3, g4⟩ | ⟨_, g, _⟩
    · rw [g3] at hq
      obtain ⟨n0, n1, rfl⟩ := q6570 g2 hq
      have h30 : σ.2 30 2 = -1 ∨ ∃ z, z ≤ 500 ∧ σ.2 30 2 = Int32.ofNat z := by
        rcases h.2.2.2.2.2.2.1 with ⟨_, e⟩ | ⟨w, w1, _, w3⟩
        · exact Or.inl e
        · exact Or.inr ⟨w, by omega, w3⟩
      obtain ⟨m2, r1, r2⟩ := names_r (x := Int32.ofNat (65 + n0)) (c := c) pr 0 2601 σ hA g3 h10 (by omega) h30 (by omega) (by omega)
      have e9 : c1.1 9 = c.1 9 := s4 9 (by omega)
      rw [g4, sub65 n1, e9]
      have hbit := (and_p2 (x := c.1 9) (n := n0) (by omega)).trans (not_congr (hn n0 n1))
      have hNM : ∀ (σ' : gm_S) (c' : ck_S), c'.1 9 = c.1 9 ||| ((1 : Int32) <<< ((Int32.ofNat (65 + n0) - 65) &&& 31)) → σ'.2 11 = upd (σ.2 11) pr (Int32.ofNat (65 + n0)) → NM (pr + 1) σ' c' := by
        intro σ' c' k1 k2 n hn6
        rw [k1, k2, sub65 n1, bt_or, bt_p2 (by omega), Bool.or_eq_true]
        constructor
        · rintro (e | e)
          · obtain ⟨i, i1, i2⟩ := (hn n hn6).mp e
            exact ⟨i, by omega, by rw [upd_ne (by omega)]; exact i2⟩
          · have : n = n0 := of_decide_eq_true e
            subst this
            exact ⟨pr, by omega, upd_eq⟩
        · rintro ⟨i, i1, i2⟩
          by_cases hi : i = pr
          · rw [hi, upd_eq] at i2
            have := (eq_N (by omega) (by omega)).mp i2
            exact Or.inr (decide_eq_true (by omega))
          · rw [upd_ne hi] at i2
            exact Or.inl ((hn n hn6).mpr ⟨i, by omega, i2⟩)
      have fin : ∀ (σn : gm_S) (c2 : ck_S), sp_Md_readProgram_27 2601 (Int32.ofNat 0) σ = sp_Md_readProgram_27 (m2 + 1) (Int32.ofNat pr) σn → AL sz at_ σn c → sv sz at_ σn = Int32.ofNat (65 + n0) → σn.1 10 = Int32.ofNat pr → σn.2 11 = σ.2 11 → σn.2 49 = σ.2 49 → rH pr pt σ σn → c2.2.2 = c.2.2 → c2.1 9 = c.1 9 ||| ((1 : Int32) <<< ((Int32.ofNat (65 + n0) - 65) &&& 31)) → c2.1 12 = 0 → c2.2.1 3 = c1.2.1 3 → (∀ x f, HB sz (at_ + 1) pr pt 0 (nbS pr x f σn) c2) → JG lim sz pr pt σ c (sp_Md_readProgram_27 2601 0 σ) (cIn (Int32.ofNat (65 + n0)) c2) := by
        intro σn c2 k1 k2 k3 k4 k5 k49 k6 k7 k8 k9 k10 k11
        have k1' : sp_Md_readProgram_27 2601 0 σ = sp_Md_readProgram_27 (m2 + 1) (Int32.ofNat pr) σn := k1
        obtain ⟨f, f1, f2⟩ := r27e (m := m2) k2 k4 hpr
        rw [k1', f1, k3]
        have hx : (nbS pr (Int32.ofNat (65 + n0)) f σn).2 11 pr = Int32.ofNat (65 + n0) := (upd_eq : upd (σn.2 11) pr _ pr = _)
        have hj := in_j (lim := lim) (v1 := 26) (li := fun _ => 0) (lo := fun _ => 0) (k11 (Int32.ofNat (65 + n0)) f) (HL_nb f2 k9 (by rw [k10]; exact s8)) (by have := h.2.2.2.2.2.1.2; omega) (show σn.2 49 pr = _ by rw [k49]; exact h.2.2.2.2.2.2.2.2.2) (by rw [k7]; exact hlim)
        rw [hx] at hj
        obtain ⟨r, σ', P, c', j1, j2, j3, j4⟩ := hj
        have hrh := rH_tr k6 (rH_nb (x := Int32.ofNat (65 + n0)) (f := f))
        refine ⟨r, σ', P, c', j1, j2, rV_tr hrh.1 j3, ?_⟩
        rcases j4 with ⟨a1, a2, a3, a4, a5, a6⟩ | e
        · refine Or.inl ⟨a1, hNM σ' c' (a2.trans k8) ?_, rH_tr hrh a4, a5, a6⟩
          rw [a3, ← k5]
          rfl
        · exact Or.inr e
      by_cases hex : ∃ i, i < pr ∧ σ.2 11 i = Int32.ofNat (65 + n0)
      · rw [if_neg (fun e => hbit.mp e hex)]
        obtain ⟨i, i1, i2⟩ := hex
        obtain ⟨o1, o2, o3⟩ := mN_o (σ := σ) (k := 2) (w := at_)
        refine fin (mN 2 at_ σ) _ (r1 ⟨i, by omega, i1, i2⟩) ?_ ?_ (by rw [o1]; exact h10) (o2 11 (by decide)) (o2 49 (by decide)) (rH_U (rU_N (pc := 0) (tr := 0))) s3 (show c1.1 9 ||| _ = _ by rw [e9]) s6 rfl (fun x f => ?_)
        · obtain ⟨a1, a2, a3, a4, a5⟩ := hA
          exact ⟨a1, a2, by rw [o1]; exact a3, by rw [o1]; exact a4, by rw [o2 4 (by decide)]; exact a5⟩
        · rw [← g3]
          unfold sv
          rw [o2 4 (by decide)]
        · have hb := HB_N (HB_nb (x := x) (f := f) hpr h s2 e1 e2 hlt) (w := at_) (by omega)
          obtain ⟨u1, u2, u3⟩ := mN_o (σ := nbS pr x f σ) (k := 2) (w := at_)
          refine HB_cc (c := cN 2 at_ (cP c1)) hb.1 rfl rfl (HB_m (σ := mN 2 at_ (nbS pr x f σ)) ?_ ?_ ?_ ?_ hb)
          · rw [u1]
            show upd (mN 2 at_ σ).1 27 _ = upd σ.1 27 _
            rw [o1]
          · rw [u2 4 (by decide)]
            exact o2 4 (by decide)
          · rw [u2 17 (by decide)]
            show upd ((mN 2 at_ σ).2 17) pr 0 = upd (σ.2 17) pr 0
            rw [o2 17 (by decide)]
          · show (mN 2 at_ σ).2 30 = _
            exact (mN_30 (k := 2) (w := at_) (σ := σ) (σ1 := nbS pr x f σ) rfl).symm
      · rw [if_pos (hbit.mpr hex)]
        exact fin σ _ (r2 (fun ⟨i, _, e2, e3⟩ => hex ⟨i, e2, e3⟩)) hA g3 h10 rfl rfl rH_rf s3 (show c1.1 9 ||| _ = _ by rw [e9]) s6 rfl (fun x f => HB_cc (c := cP c1) (HB_nb (x := x) (f := f) hpr h s2 e1 e2 hlt).1 rfl rfl (HB_nb hpr h s2 e1 e2 hlt))
    · rw [g] at hq
      exact absurd (by decide) hq
end H10
