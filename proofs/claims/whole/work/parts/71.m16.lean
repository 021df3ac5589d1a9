section P3
variable {T : mw_A} {S : Int32} {E : ck_E} {β : Nat → Int32} {f : mw_F} {g : gw_G} {G : tp_G} {Γ : Nat → Bool} {th mi : Int32} {K : Nat → Int32}
theorem GD_wk {t : Nat} {x y : kd_R} {res s c s' : Int32} (h : GD T t y res s c s') (hu : x.2.2.2.1 ≤ y.2.2.2.1) (hv : y.2.2.2.2 ≤ x.2.2.2.2) (ho : res = 0 → ∀ k, bt (T 26 y.1.1.toNatClampNeg) k = true → bt (T 26 x.1.1.toNatClampNeg) k = true) : GD T t x res s c s' := by
  obtain ⟨k, h1, h2, h3, h4, h5⟩ := h
  refine ⟨k, h1, h2, fun i hi => h3 i (by omega), fun hk => ?_, fun hr => ho hr k (h5 hr)⟩
  obtain ⟨i, i1, i2, i3⟩ := h4 hk
  exact ⟨i, by omega, by omega, i3⟩
theorem ps_5 {x y : kd_R} {t j : Nat} (hp : gi x.1.1 2600 = true) (hk : T 20 x.1.1.toNatClampNeg = 5) (e0 : egI E x.1.2 2 0 = some 5) (e3 : egI E x.1.2 2 3 = some (T 25 x.1.1.toNatClampNeg)) (hm : ∀ i, bt (T 25 x.1.1.toNatClampNeg) i = decide (x.2.2.2.1 ≤ i ∧ i < x.2.2.2.2)) (hj : j < 26) (hΓ : Γ j = true) (hl : T 21 x.1.1.toNatClampNeg = Int32.ofNat j) (e1 : egI E x.1.2 2 1 = some (β j)) (hx : T 23 x.1.1.toNatClampNeg = y.1.1) (e2 : egR E x.1.2 2 2 = some (some y.1.2)) (hst : T 25 x.1.1.toNatClampNeg &&& S ≠ 0 → T 25 y.1.1.toNatClampNeg &&& S ≠ 0) (hz : pz [y] x.2.2.2.1 x.2.2.2.2) (ho : T 26 x.1.1.toNatClampNeg = T 26 y.1.1.toNatClampNeg) (hP : zPS T S E β g G Γ t y) : zPS T S E β (gwF T S f g) (sp_Tk_perform G) Γ t x := by
  have hgi : gi (Int32.ofNat j) 26 = true := gi_of hj (by decide)
  have hcj : (Int32.ofNat j).toNatClampNeg = j := cl_of (by omega)
  obtain ⟨hu, hv⟩ := hz
  have hv' : y.2.2.2.2 = x.2.2.2.2 := hv
  intro K th mi hK hkn res b hrb
  have hcl : ∀ (σ : ck_S), σ.2.2.2.1 = E → sp_Tk_perform G (some x.1.2) b σ = sp_Tk_performSuspend G (some x.1.2) b σ := by
    intro σ hE
    unfold sp_Tk_perform
    simp only [hE, e0]
    simp
    cases sp_Tk_performSuspend G (some x.1.2) b σ <;> rfl
  have hgd : ∀ s c s', GD T t y res s c s' → GD T t x res s c s' := fun s c s' h => GD_wk h (by omega) (by omega) (fun _ k hk => by rw [ho]; exact hk)
  rcases hrb with ⟨hr, hb⟩ | ⟨hr, hb, hs⟩
  · subst hr hb
    refine PT_eq (hP K th mi hK hkn 0 1 (Or.inl ⟨rfl, rfl⟩)) (fun σ hs => ?_) (fun s fl _ => ?_) hgd
    · rw [hcl σ hs.1]
      unfold sp_Tk_performSuspend
      simp only [hs.1, e2]
      simp
      cases G (some y.1.2) 1 σ <;> rfl
    · rw [gwF_p hp]
      unfold gw_go
      simp only [hk, hx]
      simp
  · subst hr hb
    obtain ⟨kk, kt, km⟩ := (hK j hj).1 hΓ
    have hno : K j ≠ 1 → zCT E S th mi (sp_Tk_perform G (some x.1.2) 0) ∧ RT (gwF T S f g x.1.1 1 K) ∧ JT E S th mi (gwF T S f g x.1.1 1 K) (sp_Tk_perform G (some x.1.2) 0) (GD T t x 1) := by
      intro hn
      have ht : th &&& β j = 0 := nz_eq0.mpr (by rw [kt]; simp [hn])
      refine PT_eq (hP K th mi hK hkn 1 0 (Or.inr ⟨rfl, rfl, hst hs⟩)) (fun σ hs => ?_) (fun s fl _ => ?_) hgd
      · rw [hcl σ hs.1]
        unfold sp_Tk_performSuspend
        simp only [hs.1, e1, e2, hs.2.2.1, ht]
        simp
        cases G (some y.1.2) 0 σ <;> rfl
      · rw [gwF_p hp]
        unfold gw_go
        simp only [hk, hx, hl, hgi, hcj, hn]
        simp
    rcases kk with k0 | k1 | k2
    · exact hno (by rw [k0]; decide)
    · rw [k1] at kt
      have ht : ¬ (th &&& β j = 0) := fun h => by rw [nz_eq0.mp h] at kt; exact absurd kt (by decide)
      refine PT_const (c := 1) (F := fun s => s ||| (S &&& T 25 x.1.1.toNatClampNeg)) (fun σ hs => ?_) (fun s fl => ?_) (fun s => ?_)
      · rw [hcl σ hs.1]
        unfold sp_Tk_performSuspend
        simp only [hs.1, e1, e3, hs.2.2.1, hs.2.1, ht]
        simp
        rw [← hs.1]
      · rw [gwF_p hp]
        unfold gw_go
        simp only [hk, hl, hgi, hcj, k1]
        simp
        rw [Int32.and_comm]
      · refine ⟨1, ofN1, by omega, fun i hi => ?_, fun _ => ?_, fun h => absurd h (by decide)⟩
        · rw [bt_or, bt_and, hm i]
          have : ¬ (x.2.2.2.1 ≤ i ∧ i < x.2.2.2.2) := by omega
          simp [this]
        · obtain ⟨i, _, hi⟩ := bt_nz hs
          rw [bt_and, Bool.and_eq_true, hm i, decide_eq_true_iff] at hi
          refine ⟨i, hi.1.1, hi.1.2, ?_⟩
          rw [bt_or, bt_and, hm i, hi.2]
          simp [hi.1]
    · exact hno (by rw [k2]; decide)
theorem ps_3 {x y z : kd_R} {t j : Nat} (hp : gi x.1.1 2600 = true) (hk : T 20 x.1.1.toNatClampNeg = 3) (e0 : egI E x.1.2 2 0 = some 3) (hj : j < 26) (hΓ : Γ j = true) (hl : T 21 x.1.1.toNatClampNeg = Int32.ofNat j) (e1 : egI E x.1.2 2 1 = some (β j)) (hc : chn T E [y.1, z.1] (T 23 x.1.1.toNatClampNeg) (some y.1.2)) (e2 : egR E x.1.2 2 2 = some (some y.1.2)) (hst : T 25 x.1.1.toNatClampNeg &&& S ≠ 0 → ∃ w ∈ [y.1, z.1], T 25 w.1.toNatClampNeg &&& S ≠ 0) (hz : pz [y, z] x.2.2.2.1 x.2.2.2.2) (hyu : y.2.2.2.1 ≤ y.2.2.2.2) (hzu : z.2.2.2.1 ≤ z.2.2.2.2) (ho : T 26 x.1.1.toNatClampNeg = T 26 y.1.1.toNatClampNeg ||| T 26 z.1.1.toNatClampNeg) (hPy : zPS T S E β g G Γ t y) (hPz : zPS T S E β g G Γ t z) : zPS T S E β (gwF T S f g) (sp_Tk_perform G) Γ t x := by
  have hgi : gi (Int32.ofNat j) 26 = true := gi_of hj (by decide)
  have hcj : (Int32.ofNat j).toNatClampNeg = j := cl_of (by omega)
  obtain ⟨hu, hv, hw⟩ := hz
  have hw' : z.2.2.2.2 = x.2.2.2.2 := hw
  have hcc := hc
  obtain ⟨hx, _, gx, ex, c', nx, hy, hy2, gy, ey, c'', ny, _⟩ := hc
  subst hy2
  intro K th mi hK hkn res b hrb
  have hcl : ∀ (σ : ck_S), σ.2.2.2.1 = E → sp_Tk_perform G (some x.1.2) b σ = sp_Tk_performAsk G (some x.1.2) b σ := by
    intro σ hE
    unfold sp_Tk_perform
    simp only [hE, e0]
    simp
    cases sp_Tk_performAsk G (some x.1.2) b σ <;> rfl
  have hgy : ∀ s c s', GD T t y res s c s' → GD T t x res s c s' := fun s c s' h => GD_wk h (by omega) (by omega) (fun _ k hk => by rw [ho, bt_or, hk]; rfl)
  have hgz : ∀ s c s', GD T t z res s c s' → GD T t x res s c s' := fun s c s' h => GD_wk h (by omega) (by omega) (fun _ k hk => by rw [ho, bt_or, hk, Bool.or_true])
  rcases hrb with ⟨hr, hb⟩ | ⟨hr, hb, hs⟩
  · subst hr hb
    obtain ⟨kk, kt, km⟩ := (hK j hj).1 hΓ
    have hno : K j = 2 → zCT E S th mi (sp_Tk_perform G (some x.1.2) 1) ∧ RT (gwF T S f g x.1.1 0 K) ∧ JT E S th mi (gwF T S f g x.1.1 0 K) (sp_Tk_perform G (some x.1.2) 1) (GD T t x 0) := by
      intro hn
      have ht : th &&& β j = 0 := nz_eq0.mpr (by rw [kt, hn]; decide)
      refine PT_eq (hPz K th mi hK hkn 0 1 (Or.inl ⟨rfl, rfl⟩)) (fun σ hs => ?_) (fun s fl _ => ?_) hgz
      · rw [hcl σ hs.1]
        unfold sp_Tk_performAsk
        simp only [hs.1, e1, e2, hs.2.2.1, ht, nx]
        simp
        cases G (some z.1.2) 1 σ <;> rfl
      · rw [gwF_p hp]
        unfold gw_go
        have hch : mw_ch T S x.1.1 2 = some z.1.1 := by
          unfold mw_ch
          simp only [hp, hx, gx, hy]
          simp
        simp only [hk, hl, hgi, hcj, hn, hch]
        simp
    rcases kk with k0 | k1 | k2
    · exact absurd k0 (hkn j hj hΓ)
    · rw [k1] at kt
      have ht : ¬ (th &&& β j = 0) := fun h => by rw [nz_eq0.mp h] at kt; exact absurd kt (by decide)
      refine PT_eq (hPy K th mi hK hkn 0 1 (Or.inl ⟨rfl, rfl⟩)) (fun σ hs => ?_) (fun s fl _ => ?_) hgy
      · rw [hcl σ hs.1]
        unfold sp_Tk_performAsk
        simp only [hs.1, e1, e2, hs.2.2.1, ht]
        simp
        cases G (some y.1.2) 1 σ <;> rfl
      · rw [gwF_p hp]
        unfold gw_go
        have hch : mw_ch T S x.1.1 1 = some y.1.1 := by
          unfold mw_ch
          simp only [hp, hx]
          simp
        simp only [hk, hl, hgi, hcj, k1, hch]
        simp
    · exact hno k2
  · subst hr hb
    by_cases hys : T 25 y.1.1.toNatClampNeg &&& S = 0
    · have hzs : T 25 z.1.1.toNatClampNeg &&& S ≠ 0 := by
        obtain ⟨w, hw, hq⟩ := hst hs
        rcases List.mem_cons.mp hw with e | e
        · rw [e] at hq; exact absurd hys hq
        · rw [List.mem_singleton.mp e] at hq; exact hq
      refine PT_eq (hPz K th mi hK hkn 1 0 (Or.inr ⟨rfl, rfl, hzs⟩)) (fun σ hs' => ?_) (fun s fl _ => ?_) hgz
      · have hpt : sp_Node_partThatStands x.1.2 S σ = some (some z.1.2, σ) := by
          obtain ⟨pre, w, post, cz, l1, l2, l3, l4, l5, l6, l7, l8⟩ := fo_pt (v0 := x.1.2) (S := S) (σ := σ) [y.1, z.1] _ _ 2601 2601 hcc (by simp) (by simp) (hst hs) hs'.1
          have : w = z.1 := by
            cases pre with
            | nil => injection l1 with h1 _; rw [← h1] at l4; exact absurd hys l4
            | cons q qs =>
              injection l1 with _ h2
              cases qs with
              | nil => injection h2 with h3 _; exact h3.symm
              | cons r rs =>
                injection h2 with _ h4
                cases rs <;> cases h4
          unfold sp_Node_partThatStands
          rw [hs'.1, e2]
          simp only
          rw [l3, this]
        rw [hcl σ hs'.1]
        unfold sp_Tk_performAsk
        simp only [hs'.1, e2, eo_ofI e1, hs'.2.1, hpt]
        simp
        cases G (some z.1.2) 0 σ <;> rfl
      · rw [gwF_p hp]
        unfold gw_go
        have hch : mw_ch T S x.1.1 0 = some z.1.1 := by
          unfold mw_ch
          simp only [hp, hx, gx, hy, hys]
          simp
        simp only [hk, hch]
        simp
    · refine PT_eq (hPy K th mi hK hkn 1 0 (Or.inr ⟨rfl, rfl, hys⟩)) (fun σ hs' => ?_) (fun s fl _ => ?_) hgy
      · have hpt : sp_Node_partThatStands x.1.2 S σ = some (some y.1.2, σ) := by
          obtain ⟨pre, w, post, cz, l1, l2, l3, l4, l5, l6, l7, l8⟩ := fo_pt (v0 := x.1.2) (S := S) (σ := σ) [y.1, z.1] _ _ 2601 2601 hcc (by simp) (by simp) (hst hs) hs'.1
          have : w = y.1 := by
            cases pre with
            | nil => injection l1 with h1 _; exact h1.symm
            | cons q qs =>
              injection l1 with h1 _
              exact absurd (l8 y.1 (by rw [h1]; simp)) hys
          unfold sp_Node_partThatStands
          rw [hs'.1, e2]
          simp only
          rw [l3, this]
        rw [hcl σ hs'.1]
        unfold sp_Tk_performAsk
        simp only [hs'.1, e2, eo_ofI e1, hs'.2.1, hpt]
        simp
        cases G (some y.1.2) 0 σ <;> rfl
      · rw [gwF_p hp]
        unfold gw_go
        have hch : mw_ch T S x.1.1 0 = some y.1.1 := by
          unfold mw_ch
          simp only [hp, hx, gx, hys]
          simp
        simp only [hk, hch]
        simp
theorem ps_6 {x y : kd_R} {t : Nat} (hp : gi x.1.1 2600 = true) (hk : T 20 x.1.1.toNatClampNeg = 6) (e0 : egI E x.1.2 2 0 = some 6) (e3 : egI E x.1.2 2 3 = some (T 25 x.1.1.toNatClampNeg)) (hm : ∀ i, bt (T 25 x.1.1.toNatClampNeg) i = decide (x.2.2.2.1 ≤ i ∧ i < x.2.2.2.2)) (hmy : ∀ i, bt (T 25 y.1.1.toNatClampNeg) i = decide (y.2.2.2.1 ≤ i ∧ i < y.2.2.2.2)) (gy : gi y.1.1 2600 = true) (hx : T 23 x.1.1.toNatClampNeg = y.1.1) (e2 : egR E x.1.2 2 2 = some (some y.1.2)) (hst : T 25 x.1.1.toNatClampNeg &&& S ≠ 0 → T 25 y.1.1.toNatClampNeg &&& S ≠ 0) (hz : pz [y] x.2.2.2.1 x.2.2.2.2) (ht : t < 20) (h16 : b16 (T 26 y.1.1.toNatClampNeg)) (ho : T 26 x.1.1.toNatClampNeg = q_low (T 26 y.1.1.toNatClampNeg)) (hP : zPS T S E β g G Γ (t + 1) y) : zPS T S E β (gwF T S f g) (sp_Tk_perform G) Γ t x := by
  obtain ⟨hu, hv⟩ := hz
  have hv' : y.2.2.2.2 = x.2.2.2.2 := hv
  have hmm : T 25 y.1.1.toNatClampNeg = T 25 x.1.1.toNatClampNeg := by
    apply bt_ext
    intro i _
    rw [hm i, hmy i, hu, hv']
  intro K th mi hK hkn res b hrb
  have hrb' : (res = 0 ∧ b = 1 ∨ res = 1 ∧ b = 0 ∧ T 25 y.1.1.toNatClampNeg &&& S ≠ 0) := by
    rcases hrb with h | ⟨h1, h2, h3⟩
    · exact Or.inl h
    · exact Or.inr ⟨h1, h2, hst h3⟩
  obtain ⟨hC, hR, hJ⟩ := hP K th mi hK hkn res b hrb'
  have hcl : ∀ (σ : ck_S), σ.2.2.2.1 = E → sp_Tk_perform G (some x.1.2) b σ = sp_Tk_performTrap G (some x.1.2) b σ := by
    intro σ hE
    unfold sp_Tk_perform
    simp only [hE, e0]
    simp
    cases sp_Tk_performTrap G (some x.1.2) b σ <;> rfl
  have hgo : ∀ s fl, gwF T S f g x.1.1 res K s fl = gw_tp T g y.1.1 res K s fl := by
    intro s fl
    rw [gwF_p hp]
    unfold gw_go
    simp only [hk, hx]
    simp
  have hC1 : ∀ (σ : ck_S) (c m cc s o : Int32), σ.2.2.2.1 = E → G (some y.1.2) b σ = some (c, (zu4 σ.1 m cc s o, σ.2)) → sp_Tk_perform G (some x.1.2) b σ = (if (2 : Int32) ≤ c then (if c ≤ 2 then some (0, (zu4 σ.1 m cc (s &&& (T 25 x.1.1.toNatClampNeg ^^^ (-1))) o, σ.2)) else some (c - 1, (zu4 σ.1 m cc s o, σ.2))) else some (c, (zu4 σ.1 m cc s o, σ.2))) := by
    intro σ c m cc s o hE hg
    rw [hcl σ hE]
    unfold sp_Tk_performTrap
    simp only [hE, e2, hg, e3]
    have h7 : upd (zu4 σ.1 m cc s o) 7 (zu4 σ.1 m cc s o 7 &&& (T 25 x.1.1.toNatClampNeg ^^^ (-1))) = zu4 σ.1 m cc (s &&& (T 25 x.1.1.toNatClampNeg ^^^ (-1))) o := by
      rw [u4_7, u4_u4]
      rfl
    rw [h7, ← hE]
  refine ⟨fun σ hs h8 => ?_, fun s fl hf => ?_, fun s σ hs h8 h7 => ?_⟩
  · obtain ⟨c, m, cc, s, o, a1, a2, a3⟩ := hC σ hs h8
    rw [hC1 σ c m cc s o hs.1 a1]
    by_cases h2 : (2 : Int32) ≤ c
    · rw [if_pos h2]
      by_cases h3 : c ≤ 2
      · rw [if_pos h3]; exact ⟨0, m, cc, _, o, rfl, a2, a3⟩
      · rw [if_neg h3]; exact ⟨c - 1, m, cc, s, o, rfl, a2, a3⟩
    · rw [if_neg h2]; exact ⟨c, m, cc, s, o, rfl, a2, a3⟩
  · obtain ⟨c, s', fl', a1, a2, a3⟩ := hR s fl hf
    rw [hgo]
    unfold gw_tp
    rw [a1]
    simp only
    by_cases h2 : c = 2
    · rw [if_pos h2, if_pos gy]; exact ⟨_, _, _, rfl, a2, a3⟩
    · rw [if_neg h2]
      by_cases h3 : (2 : Int32) ≤ c
      · rw [if_pos h3]; exact ⟨_, _, _, rfl, a2, a3⟩
      · rw [if_neg h3]; exact ⟨_, _, _, rfl, a2, a3⟩
  · obtain ⟨c, s', fl', c', m, cc, s7, o, a1, a2, a3⟩ := hJ s σ hs h8 h7
    rw [hC1 σ c' m cc s7 o hs.1 a2, hgo]
    unfold gw_tp
    rw [a1]
    simp only
    rcases a3 with ⟨b1, b2, b3, b4, k, d1, d2, d3, d4, d5⟩ | ⟨b1, b2⟩
    · subst b1 b2 b3 b4
      have hci : c'.toInt = k := by rw [d1]; exact Int32.toInt_ofNat_of_lt (by omega)
      have h2i : (2 : Int32).toInt = 2 := rfl
      by_cases hk2 : k = 2
      · have hc2 : c' = 2 := by rw [d1, hk2]; rfl
        rw [hc2, if_pos rfl, if_pos gy, if_pos (by decide), if_pos (by decide)]
        refine ⟨_, _, _, _, _, _, _, _, rfl, rfl, Or.inl ⟨rfl, rfl, rfl, by rw [hmm], 0, ofN0, by omega, fun i hi => ?_, fun h => by omega, fun hr => ?_⟩⟩
        · rw [hmm, bt_and, bt_not, hm i, d3 i (by omega)]
          have : ¬ (x.2.2.2.1 ≤ i ∧ i < x.2.2.2.2) := by omega
          by_cases h32 : i < 32
          · simp [this, h32]
          · rw [bt_hi (by omega)]; simp
        · have := d5 hr
          rw [hk2] at this
          rw [ho, low_eq h16, bt_bT h16, if_pos rfl, this, Bool.or_true]
      · have hcn : c' ≠ 2 := fun e => by
          rw [e, h2i] at hci
          omega
        rw [if_neg hcn]
        by_cases hk3 : 2 ≤ k
        · have hle : (2 : Int32) ≤ c' := by rw [Int32.le_iff_toInt_le, hci, h2i]; omega
          have hnl : ¬ c' ≤ 2 := by rw [Int32.le_iff_toInt_le, hci, h2i]; omega
          rw [if_pos hle, if_pos hle, if_neg hnl]
          have hsub : c' - 1 = Int32.ofNat (k - 1) := by
            have hlt : k < 25 := by omega
            have hdec : ∀ q : Fin 25, 1 ≤ q.1 → Int32.ofNat q.1 - 1 = Int32.ofNat (q.1 - 1) := by decide
            rw [d1]
            exact hdec ⟨k, hlt⟩ (by show 1 ≤ k; omega)
          refine ⟨_, _, _, _, _, _, _, _, rfl, rfl, Or.inl ⟨rfl, rfl, rfl, rfl, k - 1, hsub, by omega, fun i hi => d3 i (by omega), fun h => by omega, fun hr => ?_⟩⟩
          rw [ho, low_eq h16, bt_bT h16, if_neg (by omega), if_neg (by omega), show k - 1 + 1 = k by omega]
          exact d5 hr
        · have hle : ¬ (2 : Int32) ≤ c' := by rw [Int32.le_iff_toInt_le, hci, h2i]; omega
          rw [if_neg hle, if_neg hle]
          refine ⟨_, _, _, _, _, _, _, _, rfl, rfl, Or.inl ⟨rfl, rfl, rfl, rfl, k, d1, by omega, fun i hi => d3 i (by omega), fun h => ?_, fun hr => ?_⟩⟩
          · obtain ⟨i, i1, i2, i3⟩ := d4 h
            exact ⟨i, by omega, by omega, i3⟩
          · have := d5 hr
            rw [ho, low_eq h16, bt_bT h16]
            by_cases hk0 : k = 0
            · rw [hk0] at this
              rw [if_pos hk0, this]; rfl
            · have hk1 : k = 1 := by omega
              rw [if_neg hk0, if_pos hk1]
              rw [hk1] at this
              exact this
    · subst b1 b2
      have hr : ∃ c1 s1, ((if c = 2 then (if gi y.1.1 2600 = true then some (0, s' &&& (T 25 y.1.1.toNatClampNeg ^^^ (-1)), 2) else none) else if (2 : Int32) ≤ c then some (c - 1, s', 2) else some (c, s', 2)) : Option gw_V) = some (c1, s1, 2) := by
        by_cases h2 : c = 2
        · rw [if_pos h2, if_pos gy]; exact ⟨_, _, rfl⟩
        · rw [if_neg h2]
          by_cases h3 : (2 : Int32) ≤ c
          · rw [if_pos h3]; exact ⟨_, _, rfl⟩
          · rw [if_neg h3]; exact ⟨_, _, rfl⟩
      have hq : ∃ c1 s1, (if (2 : Int32) ≤ c' then (if c' ≤ 2 then some (0, (zu4 σ.1 m cc (s7 &&& (T 25 x.1.1.toNatClampNeg ^^^ (-1))) 1, σ.2)) else some (c' - 1, (zu4 σ.1 m cc s7 1, σ.2))) else some (c', (zu4 σ.1 m cc s7 1, σ.2)) : Option (Int32 × ck_S)) = some (c1, (zu4 σ.1 m cc s1 1, σ.2)) := by
        by_cases h2 : (2 : Int32) ≤ c'
        · rw [if_pos h2]
          by_cases h3 : c' ≤ 2
          · rw [if_pos h3]; exact ⟨_, _, rfl⟩
          · rw [if_neg h3]; exact ⟨_, _, rfl⟩
        · rw [if_neg h2]; exact ⟨_, _, rfl⟩
      obtain ⟨c1, s1, r1⟩ := hr
      obtain ⟨c2, s2, r2⟩ := hq
      exact ⟨c1, s1, 2, c2, m, cc, s2, 1, r1, r2, Or.inr ⟨rfl, rfl⟩⟩
end P3
