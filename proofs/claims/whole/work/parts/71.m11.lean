section W7
variable {T : mw_A} {S : Int32} {E : ck_E} {β : Nat → Int32} {f : mw_F} {g G : tw_G} {Γ : Nat → Bool} {th mi : Int32} {K : Nat → Int32}
theorem nz_eq0 {m : Int32} {j : Nat} : (m &&& β j = 0) ↔ nz β m j = false := by
  unfold nz
  rw [Bool.not_eq_false', decide_eq_true_iff]
theorem ckk_0 {c : Int64} (h : b16 (co c)) : ckk 0 c := ⟨b16_0, h, am1_0, fun i hi => by rw [cz_0, bt_0] at hi; cases hi⟩
theorem ws_5 {p : Int32} {a j : Nat} {x : Int32 × Nat} (hp : gi p 2600 = true) (hk : T 20 p.toNatClampNeg = 5) (e0 : egI E a 2 0 = some 5) (hj : j < 26) (hΓ : Γ j = true) (hl : T 21 p.toNatClampNeg = Int32.ofNat j) (e1 : egI E a 2 1 = some (β j)) (hc : chn T E [x] (T 23 p.toNatClampNeg) (some x.2)) (e2 : egR E a 2 2 = some (some x.2)) (hst : T 25 p.toNatClampNeg &&& S ≠ 0 → T 25 x.1.toNatClampNeg &&& S ≠ 0) (hW : WS T S E β f g Γ x.1 x.2) : WS T S E β (mwF T S f) (sp_Tk_weigh g) Γ p a := by
  have hx := hc.1
  have hgi : gi (Int32.ofNat j) 26 = true := gi_of hj (by decide)
  have hcj : (Int32.ofNat j).toNatClampNeg = j := cl_of (by omega)
  intro K th mi hK res b hrb
  have hcl : ∀ (σ : ck_S) (s : Int32), σ.2.2.2.1 = E → sp_Tk_weigh g (some a) b s σ = sp_Tk_weighSuspend g (some a) b s σ := by
    intro σ s hE
    unfold sp_Tk_weigh
    simp only [hE, e0]
    simp
    cases sp_Tk_weighSuspend g (some a) b s σ <;> rfl
  rcases hrb with ⟨hr, hb⟩ | ⟨hr, hb, hs⟩
  · subst hr hb
    obtain ⟨⟨xm, xc, f1, f2, f3, f4⟩, ⟨uc, u1, u2, u3⟩⟩ := hW K th mi hK 0 1 (Or.inl ⟨rfl, rfl⟩)
    have hcl' : ∀ (σ : ck_S) (s : Int32), σ.2.2.2.1 = E → sp_Tk_weigh g (some a) 1 s σ = g (some x.2) 1 s σ := by
      intro σ s hE
      rw [hcl σ s hE]
      unfold sp_Tk_weighSuspend
      simp only [hE, e2]
      simp
      cases g (some x.2) 1 s σ <;> rfl
    refine ⟨⟨xm, xc, ?_, ?_, f3, TW_eq (fun σ hE _ _ _ => hcl' σ 1 hE) f4⟩, ⟨uc, ?_, u2, TW_eq (fun σ hE _ _ _ => hcl' σ 0 hE) u3⟩⟩
    · rw [mwF_m hp]; unfold mw_must; simp only [hk, hx, f1]; rfl
    · rw [mwF_c hp]; unfold mw_can; simp only [hk, hx, f2]; rfl
    · rw [mwF_c hp]; unfold mw_can; simp only [hk, hx, u1]; rfl
  · subst hr hb
    obtain ⟨⟨xm, xc, f1, f2, f3, f4⟩, ⟨uc, u1, u2, u3⟩⟩ := hW K th mi hK 1 0 (Or.inr ⟨rfl, rfl, hst hs⟩)
    obtain ⟨kk, kt, km⟩ := (hK j hj).1 hΓ
    rcases kk with k0 | k1 | k2
    · rw [k0] at kt km
      have ht : th &&& β j = 0 := nz_eq0.mpr (by rw [kt]; decide)
      have hm : mi &&& β j = 0 := nz_eq0.mpr (by rw [km]; decide)
      have hcl' : ∀ (σ : ck_S) (s : Int32), σ.2.2.2.1 = E → σ.1 3 = th → σ.1 4 = mi → sp_Tk_weigh g (some a) 0 s σ = (match g (some x.2) 0 0 σ with | none => none | some y => some (y.1 ||| 2, y.2)) := by
        intro σ s hE h3 h4
        rw [hcl σ s hE]
        unfold sp_Tk_weighSuspend
        simp only [hE, e1, e2, h3, h4, ht, hm]
        simp
        rfl
      refine ⟨⟨0, uc ||| 2, ?_, ?_, ckk_0 (by rw [co_or]; exact b16_or u2 b16_2), ?_⟩, ⟨uc ||| 2, ?_, (by rw [co_or]; exact b16_or u2 b16_2), ?_⟩⟩
      · rw [mwF_m hp]; unfold mw_must; simp only [hk, hl, hgi, hcj, k0]; simp
      · rw [mwF_c hp]; unfold mw_can; simp only [hk, hl, hgi, hcj, k0, hx, u1]; simp
      · intro σ hE hS h3 h4
        obtain ⟨m, c, r1, r2, r3⟩ := u3 σ hE hS h3 h4
        refine ⟨m, c, ?_, fun i hi => by rw [r2 i hi, sg_0], fun i hi => by rw [r3 i hi, sg_or, sg_2, Bool.or_false]⟩
        rw [hcl' σ 1 hE h3 h4, r1]
        simp only
        rw [pair_or2, co_or, cz_0, cz_2]
      · rw [mwF_c hp]; unfold mw_can; simp only [hk, hl, hgi, hcj, k0, hx, u1]; simp
      · intro σ hE hS h3 h4
        obtain ⟨m, c, r1, r2, r3⟩ := u3 σ hE hS h3 h4
        refine ⟨m, c, ?_, fun i hi => r2 i hi, fun i hi => by rw [r3 i hi, sg_or, sg_2, Bool.or_false]⟩
        rw [hcl' σ 0 hE h3 h4, r1]
        simp only
        rw [pair_or2, co_or, cz_2]
    · rw [k1] at kt km
      have ht : ¬ (th &&& β j = 0) := fun h => by rw [nz_eq0.mp h] at kt; exact absurd kt (by decide)
      have hm : mi &&& β j = 0 := nz_eq0.mpr (by rw [km]; decide)
      have hcl' : ∀ (σ : ck_S) (s : Int32), σ.2.2.2.1 = E → σ.1 3 = th → σ.1 4 = mi → sp_Tk_weigh g (some a) 0 s σ = some (q_Tk_ending 2 s, σ) := by
        intro σ s hE h3 h4
        rw [hcl σ s hE]
        unfold sp_Tk_weighSuspend
        simp only [hE, e1, e2, h3, h4, ht, hm]
        simp
      have hid : ∀ s : Int32, ∀ r : Int32, q_Tk_ending 2 s = r → TW E β S th mi (sp_Tk_weigh g) (some a) 0 s r (fun _ => false) (sg 2) := by
        intro s r hr σ hE hS h3 h4
        refine ⟨σ.1 5, σ.1 6, ?_, fun i _ => by simp, fun i _ => by rw [sg_2, Bool.or_false]⟩
        rw [upd_self, upd_self, hcl' σ s hE h3 h4, hr]
      refine ⟨⟨2, 2, ?_, ?_, ⟨b16_2, b16_2, am1_2, sub_rf⟩, TW_cg (fun i _ => sg_2.symm) (fun _ _ => rfl) (hid 1 _ zend1)⟩, ⟨2, ?_, b16_2, hid 0 _ end0⟩⟩
      · rw [mwF_m hp]; unfold mw_must; simp only [hk, hl, hgi, hcj, k1]; simp
      · rw [mwF_c hp]; unfold mw_can; simp only [hk, hl, hgi, hcj, k1]; simp
      · rw [mwF_c hp]; unfold mw_can; simp only [hk, hl, hgi, hcj, k1]; simp
    · rw [k2] at kt km
      have hm : ¬ (mi &&& β j = 0) := fun h => by rw [nz_eq0.mp h] at km; exact absurd km (by decide)
      have hcl' : ∀ (σ : ck_S) (s : Int32), σ.2.2.2.1 = E → σ.1 4 = mi → sp_Tk_weigh g (some a) 0 s σ = g (some x.2) 0 s σ := by
        intro σ s hE h4
        rw [hcl σ s hE]
        unfold sp_Tk_weighSuspend
        simp only [hE, e1, e2, h4, hm]
        simp
        cases g (some x.2) 0 s σ <;> rfl
      refine ⟨⟨xm, xc, ?_, ?_, f3, TW_eq (fun σ hE _ _ h4 => hcl' σ 1 hE h4) f4⟩, ⟨uc, ?_, u2, TW_eq (fun σ hE _ _ h4 => hcl' σ 0 hE h4) u3⟩⟩
      · rw [mwF_m hp]; unfold mw_must; simp only [hk, hl, hgi, hcj, k2, hx, f1]; simp
      · rw [mwF_c hp]; unfold mw_can; simp only [hk, hl, hgi, hcj, k2, hx, f2]; simp
      · rw [mwF_c hp]; unfold mw_can; simp only [hk, hl, hgi, hcj, k2, hx, u1]; simp
theorem ws_3 {p : Int32} {a j : Nat} {x y : Int32 × Nat} (hp : gi p 2600 = true) (hk : T 20 p.toNatClampNeg = 3) (e0 : egI E a 2 0 = some 3) (hj : j < 26) (hΓ : Γ j = true) (hl : T 21 p.toNatClampNeg = Int32.ofNat j) (e1 : egI E a 2 1 = some (β j)) (hc : chn T E [x, y] (T 23 p.toNatClampNeg) (some x.2)) (e2 : egR E a 2 2 = some (some x.2)) (hst : T 25 p.toNatClampNeg &&& S ≠ 0 → ∃ z ∈ [x, y], T 25 z.1.toNatClampNeg &&& S ≠ 0) (hW : ∀ z ∈ [x, y], WS T S E β f g Γ z.1 z.2) : WS T S E β (mwF T S f) (sp_Tk_weigh g) Γ p a := by
  have hcc := hc
  obtain ⟨hx, _, gx, ex, c', nx, hy, hy2, gy, ey, c'', ny, _⟩ := hc
  subst hy2
  have hgi : gi (Int32.ofNat j) 26 = true := gi_of hj (by decide)
  have hcj : (Int32.ofNat j).toNatClampNeg = j := cl_of (by omega)
  have Wx := hW x (by simp)
  have Wy := hW y (by simp)
  intro K th mi hK res b hrb
  have hcl : ∀ (σ : ck_S) (s : Int32), σ.2.2.2.1 = E → sp_Tk_weigh g (some a) b s σ = sp_Tk_weighAsk g (some a) b s σ := by
    intro σ s hE
    unfold sp_Tk_weigh
    simp only [hE, e0]
    simp
    cases sp_Tk_weighAsk g (some a) b s σ <;> rfl
  rcases hrb with ⟨hr, hb⟩ | ⟨hr, hb, hs⟩
  · subst hr hb
    obtain ⟨⟨xm, xc, f1, f2, f3, f4⟩, ⟨uc, u1, u2, u3⟩⟩ := Wx K th mi hK 0 1 (Or.inl ⟨rfl, rfl⟩)
    obtain ⟨⟨ym, yc, g1, g2, g3, g4⟩, ⟨vc, v1, v2, v3⟩⟩ := Wy K th mi hK 0 1 (Or.inl ⟨rfl, rfl⟩)
    obtain ⟨kk, kt, km⟩ := (hK j hj).1 hΓ
    rcases kk with k0 | k1 | k2
    · rw [k0] at kt km
      have ht : th &&& β j = 0 := nz_eq0.mpr (by rw [kt]; decide)
      have hm : mi &&& β j = 0 := nz_eq0.mpr (by rw [km]; decide)
      have hcl' : ∀ (σ : ck_S) (s : Int32), σ.2.2.2.1 = E → σ.1 3 = th → σ.1 4 = mi → sp_Tk_weigh g (some a) 1 s σ = (match g (some x.2) 1 0 σ with | none => none | some z => (match g (some y.2) 1 0 z.2 with | none => none | some w => some (z.1 ||| w.1, w.2))) := by
        intro σ s hE h3 h4
        rw [hcl σ s hE]
        unfold sp_Tk_weighAsk
        simp only [hE, e1, e2, h3, h4, ht, hm, nx]
        simp
        rfl
      have hb : b16 (co (uc ||| vc)) := by rw [co_or]; exact b16_or u2 v2
      have hcan : ∀ s, mwF T S f true p 0 s K = some (uc ||| vc) := by
        intro s
        rw [mwF_c hp]; unfold mw_can; simp only [hk, hl, hgi, hcj, k0, hx, u1, gx, hy, v1]; simp
      have hTW : ∀ s, TW E β S th mi (sp_Tk_weigh g) (some a) 1 s (q_Codes_pair 0 (co (uc ||| vc))) (fun _ => false) (sg (uc ||| vc)) := by
        intro s σ hE hS h3 h4
        obtain ⟨m, c, r1, r2, r3⟩ := u3 σ hE hS h3 h4
        obtain ⟨m', c', r1', r2', r3'⟩ := v3 (upd (upd σ.1 5 m) 6 c, σ.2) hE hS h3 h4
        refine ⟨m', c', ?_, fun i hi => ?_, fun i hi => ?_⟩
        · rw [hcl' σ s hE h3 h4, r1]
          simp only
          rw [r1']
          simp only
          rw [pair_or, up56, co_or]
          rfl
        · rw [r2' i hi]
          show (nz β m i || false) = _
          rw [r2 i hi]
          simp
        · rw [r3' i hi]
          show (nz β c i || _) = _
          rw [r3 i hi, sg_or, Bool.or_assoc]
      refine ⟨⟨0, uc ||| vc, ?_, hcan 1, ckk_0 hb, TW_cg (fun i _ => sg_0.symm) (fun _ _ => rfl) (hTW 1)⟩, ⟨uc ||| vc, hcan 0, hb, hTW 0⟩⟩
      rw [mwF_m hp]; unfold mw_must; simp only [hk, hl, hgi, hcj, k0]; simp
    · rw [k1] at kt km
      have ht : ¬ (th &&& β j = 0) := fun h => by rw [nz_eq0.mp h] at kt; exact absurd kt (by decide)
      have hcl' : ∀ (σ : ck_S) (s : Int32), σ.2.2.2.1 = E → σ.1 3 = th → sp_Tk_weigh g (some a) 1 s σ = g (some x.2) 1 s σ := by
        intro σ s hE h3
        rw [hcl σ s hE]
        unfold sp_Tk_weighAsk
        simp only [hE, e1, e2, h3, ht, nx]
        simp
        cases g (some x.2) 1 s σ <;> rfl
      have hch : mw_ch T S p 1 = some x.1 := by
        unfold mw_ch
        simp only [hp, hx]
        simp
      refine ⟨⟨xm, xc, ?_, ?_, f3, TW_eq (fun σ hE _ h3 _ => hcl' σ 1 hE h3) f4⟩, ⟨uc, ?_, u2, TW_eq (fun σ hE _ h3 _ => hcl' σ 0 hE h3) u3⟩⟩
      · rw [mwF_m hp]; unfold mw_must; simp only [hk, hl, hgi, hcj, k1, hch, f1]; simp
      · rw [mwF_c hp]; unfold mw_can; simp only [hk, hl, hgi, hcj, k1, hch, f2]; simp
      · rw [mwF_c hp]; unfold mw_can; simp only [hk, hl, hgi, hcj, k1, hch, u1]; simp
    · rw [k2] at kt km
      have ht : th &&& β j = 0 := nz_eq0.mpr (by rw [kt]; decide)
      have hm : ¬ (mi &&& β j = 0) := fun h => by rw [nz_eq0.mp h] at km; exact absurd km (by decide)
      have hcl' : ∀ (σ : ck_S) (s : Int32), σ.2.2.2.1 = E → σ.1 3 = th → σ.1 4 = mi → sp_Tk_weigh g (some a) 1 s σ = g (some y.2) 1 s σ := by
        intro σ s hE h3 h4
        rw [hcl σ s hE]
        unfold sp_Tk_weighAsk
        simp only [hE, e1, e2, h3, h4, ht, hm, nx]
        simp
        cases g (some y.2) 1 s σ <;> rfl
      have hch : mw_ch T S p 2 = some y.1 := by
        unfold mw_ch
        simp only [hp, hx, gx, hy]
        simp
      refine ⟨⟨ym, yc, ?_, ?_, g3, TW_eq (fun σ hE _ h3 h4 => hcl' σ 1 hE h3 h4) g4⟩, ⟨vc, ?_, v2, TW_eq (fun σ hE _ h3 h4 => hcl' σ 0 hE h3 h4) v3⟩⟩
      · rw [mwF_m hp]; unfold mw_must; simp only [hk, hl, hgi, hcj, k2, hch, g1]; simp
      · rw [mwF_c hp]; unfold mw_can; simp only [hk, hl, hgi, hcj, k2, hch, g2]; simp
      · rw [mwF_c hp]; unfold mw_can; simp only [hk, hl, hgi, hcj, k2, hch, v1]; simp
  · subst hr hb
    have key : ∀ z : Int32 × Nat, mw_ch T S p 0 = some z.1 → (∀ (σ : ck_S) (s : Int32), σ.2.2.2.1 = E → σ.1 2 = S → sp_Node_partThatStands a S σ = some (some z.2, σ)) → WS T S E β f g Γ z.1 z.2 → T 25 z.1.toNatClampNeg &&& S ≠ 0 → (∃ xm xc, mwF T S f false p 1 0 K = some xm ∧ mwF T S f true p 1 1 K = some xc ∧ ckk xm xc ∧ TW E β S th mi (sp_Tk_weigh g) (some a) 0 1 (q_Codes_pair (co xm) (co xc)) (sg xm) (sg xc)) ∧
        (∃ xc, mwF T S f true p 1 0 K = some xc ∧ b16 (co xc) ∧ TW E β S th mi (sp_Tk_weigh g) (some a) 0 0 (q_Codes_pair 0 (co xc)) (fun _ => false) (sg xc)) := by
      intro z hch hpt hz hzs
      obtain ⟨⟨xm, xc, f1, f2, f3, f4⟩, ⟨uc, u1, u2, u3⟩⟩ := hz K th mi hK 1 0 (Or.inr ⟨rfl, rfl, hzs⟩)
      have hcl' : ∀ (σ : ck_S) (s : Int32), σ.2.2.2.1 = E → σ.1 2 = S → sp_Tk_weigh g (some a) 0 s σ = g (some z.2) 0 s σ := by
        intro σ s hE hS
        rw [hcl σ s hE]
        unfold sp_Tk_weighAsk
        simp only [hE, e2, nx, eo_ofI e1, hS, hpt σ s hE hS]
        simp
        cases g (some z.2) 0 s σ <;> rfl
      refine ⟨⟨xm, xc, ?_, ?_, f3, TW_eq (fun σ hE hS _ _ => hcl' σ 1 hE hS) f4⟩, ⟨uc, ?_, u2, TW_eq (fun σ hE hS _ _ => hcl' σ 0 hE hS) u3⟩⟩
      · rw [mwF_m hp]; unfold mw_must; simp only [hk, hch, f1]; simp
      · rw [mwF_c hp]; unfold mw_can; simp only [hk, hch, f2]; simp
      · rw [mwF_c hp]; unfold mw_can; simp only [hk, hch, u1]; simp
    have hpt : ∀ (σ : ck_S), σ.2.2.2.1 = E → ∃ z ∈ [x, y], sp_Node_partThatStands a S σ = some (some z.2, σ) ∧ T 25 z.1.toNatClampNeg &&& S ≠ 0 ∧ (T 25 x.1.toNatClampNeg &&& S ≠ 0 → z = x) ∧ (T 25 x.1.toNatClampNeg &&& S = 0 → z = y) := by
      intro σ hE
      obtain ⟨pre, z, post, cz, l1, l2, l3, l4, l5, l6, l7, l8⟩ := fo_pt (v0 := a) (S := S) (σ := σ) [x, y] _ _ 2601 2601 hcc (by simp) (by simp) (hst hs) hE
      refine ⟨z, by rw [l1]; simp, ?_, l4, fun h => ?_, fun h => ?_⟩
      · unfold sp_Node_partThatStands
        rw [hE, e2]
        exact l3
      · cases pre with
        | nil => injection l1 with h1 _; exact h1.symm
        | cons q qs =>
          injection l1 with h1 _
          exact absurd (l8 x (by rw [h1]; simp)) h
      · cases pre with
        | nil => injection l1 with h1 _; rw [← h1] at l4; exact absurd h l4
        | cons q qs =>
          injection l1 with _ h2
          cases qs with
          | nil => injection h2 with h3 _; exact h3.symm
          | cons r rs =>
            injection h2 with _ h4
            cases rs <;> cases h4
    by_cases hxs : T 25 x.1.toNatClampNeg &&& S = 0
    · refine key y ?_ (fun σ s hE hS => ?_) Wy ?_
      · unfold mw_ch
        simp only [hp, hx, gx, hy, hxs]
        simp
      · obtain ⟨z, _, z1, _, _, z4⟩ := hpt σ hE
        rw [z1, z4 hxs]
      · obtain ⟨z, hz, hzs⟩ := hst hs
        rcases List.mem_cons.mp hz with e | e
        · subst e; exact absurd hxs hzs
        · rw [List.mem_singleton.mp e] at hzs; exact hzs
    · refine key x ?_ (fun σ s hE hS => ?_) Wx hxs
      · unfold mw_ch
        simp only [hp, hx, gx, hxs]
        simp
      · obtain ⟨z, _, z1, _, z3, _⟩ := hpt σ hE
        rw [z1, z3 hxs]
end W7
