section W6
variable {T : mw_A} {S : Int32} {E : ck_E} {β : Nat → Int32} {f : mw_F} {g G : tw_G} {Γ : Nat → Bool} {th mi : Int32} {K : Nat → Int32}
theorem up65 {r : Nat → Int32} {m c : Int32} : upd (upd r 6 c) 5 m = upd (upd r 5 m) 6 c := by
  funext j
  unfold upd
  by_cases h5 : j = 5 <;> by_cases h6 : j = 6 <;> simp [h5, h6]
theorem gi_of {j n : Nat} (h : j < n) (hn : n ≤ 2147483648) : gi (Int32.ofNat j) n = true := by
  have h1 : (Int32.ofNat j).toInt = j := Int32.toInt_ofNat_of_lt (by omega)
  unfold gi
  rw [Bool.and_eq_true]
  constructor
  · rw [Bool.not_eq_true', decide_eq_false_iff_not, Int32.lt_iff_toInt_lt, h1, show (0 : Int32).toInt = 0 from rfl]
    omega
  · have : (Int32.ofNat j).toNatClampNeg = j := by
      show (Int32.ofNat j).toInt.toNat = j
      rw [h1]
      rfl
    rw [this]
    exact Nat.ble_eq_true_of_le h
theorem cl_of {j : Nat} (h : j < 2147483648) : (Int32.ofNat j).toNatClampNeg = j := by
  show (Int32.ofNat j).toInt.toNat = j
  rw [Int32.toInt_ofNat_of_lt h]
  rfl
theorem TW_eq {a a' : Option Nat} {b b' s s' r : Int32} {Dm Dc : Nat → Bool} (h : ∀ σ : ck_S, σ.2.2.2.1 = E → σ.1 2 = S → σ.1 3 = th → σ.1 4 = mi → G a b s σ = g a' b' s' σ) (k : TW E β S th mi g a' b' s' r Dm Dc) : TW E β S th mi G a b s r Dm Dc := by
  intro σ hE hS h3 h4
  rw [h σ hE hS h3 h4]
  exact k σ hE hS h3 h4
theorem TW_cg {a : Option Nat} {b s r : Int32} {Dm Dc Dm' Dc' : Nat → Bool} (hm : ∀ j, j < 26 → Dm j = Dm' j) (hc : ∀ j, j < 26 → Dc j = Dc' j) (k : TW E β S th mi g a b s r Dm Dc) : TW E β S th mi g a b s r Dm' Dc' := by
  intro σ hE hS h3 h4
  obtain ⟨m, c, h1, h2, h3⟩ := k σ hE hS h3 h4
  exact ⟨m, c, h1, fun j hj => by rw [h2 j hj, hm j hj], fun j hj => by rw [h3 j hj, hc j hj]⟩
theorem op_eta {α β' : Type} {x : Option (α × β')} : (match x with | none => none | some y => some (y.1, y.2)) = x := by
  cases x <;> rfl
theorem ws_2 {p : Int32} {a j : Nat} (hp : gi p 2600 = true) (hk : T 20 p.toNatClampNeg = 2) (e0 : egI E a 2 0 = some 2) (hj : j < 26) (hl : T 21 p.toNatClampNeg = Int32.ofNat j) (e1 : egI E a 2 1 = some (β j)) (hO : bO β) (hb : β j ≠ 0) (hf : ∃ f', ∀ res K, f false p res 0 K = mw_must T S f' p res K) : WS T S E β (mwF T S f) (sp_Tk_weigh g) Γ p a := by
  obtain ⟨f', hf⟩ := hf
  have hmm : ∀ f res K, mw_must T S f p res K = some (1 <<< ((32 + Int32.ofNat j).toInt64 &&& 63) ||| 1) := by
    intro f res K
    unfold mw_must
    simp only [hk, hl]
    simp
  have hcc : ∀ res sure K, mwF T S f true p res sure K = some (1 <<< ((32 + Int32.ofNat j).toInt64 &&& 63) ||| 1) := by
    intro res sure K
    rw [mwF_c hp]; unfold mw_can; simp only [hk]; simp; rw [hf, hmm]
  intro K th mi hK res b hrb
  refine ⟨⟨_, _, by rw [mwF_m hp, hmm], hcc _ _ _, ?_, ?_⟩, ⟨_, hcc _ _ _, ?_, ?_⟩⟩
  · refine ⟨?_, ?_, ?_, sub_rf⟩ <;> rw [co_em hj]
    · exact b16_1
    · exact b16_1
    · exact am1_1
  · intro σ hE hS h3 h4
    refine ⟨σ.1 5 ||| β j, σ.1 6 ||| β j, ?_, fun i hi => ?_, fun i hi => ?_⟩
    · unfold sp_Tk_weigh
      simp only [hE, e0, e1]
      simp
      rw [up65, co_em hj, zend1, ← hE]
      exact ⟨rfl, rfl, rfl⟩
    · rw [nz_or, nz_b hO hj hi hb, sg_em hj]
    · rw [nz_or, nz_b hO hj hi hb, sg_em hj]
  · rw [co_em hj]; exact b16_1
  · intro σ hE hS h3 h4
    refine ⟨σ.1 5, σ.1 6 ||| β j, ?_, fun i hi => by simp, fun i hi => ?_⟩
    · unfold sp_Tk_weigh
      simp only [hE, e0, e1]
      simp
      rw [up65, co_em hj, end0, ← hE]
      exact ⟨rfl, rfl, rfl⟩
    · rw [nz_or, nz_b hO hj hi hb, sg_em hj]
theorem ws_6 {p : Int32} {a : Nat} {x : Int32 × Nat} (hp : gi p 2600 = true) (hk : T 20 p.toNatClampNeg = 6) (e0 : egI E a 2 0 = some 6) (hc : chn T E [x] (T 23 p.toNatClampNeg) (some x.2)) (e2 : egR E a 2 2 = some (some x.2)) (hst : T 25 p.toNatClampNeg &&& S ≠ 0 → T 25 x.1.toNatClampNeg &&& S ≠ 0) (hW : WS T S E β f g Γ x.1 x.2) : WS T S E β (mwF T S f) (sp_Tk_weigh g) Γ p a := by
  have hx := hc.1
  intro K th mi hK res b hrb
  have hrb' : (res = 0 ∧ b = 1 ∨ res = 1 ∧ b = 0 ∧ T 25 x.1.toNatClampNeg &&& S ≠ 0) := by
    rcases hrb with h | ⟨h1, h2, h3⟩
    · exact Or.inl h
    · exact Or.inr ⟨h1, h2, hst h3⟩
  obtain ⟨⟨xm, xc, f1, f2, f3, f4⟩, ⟨uc, u1, u2, u3⟩⟩ := hW K th mi hK res b hrb'
  have hcl : ∀ (σ : ck_S) (s : Int32), σ.2.2.2.1 = E → sp_Tk_weigh g (some a) b s σ = (match g (some x.2) b s σ with | none => none | some y => some (q_Tk_behindTrap y.1, y.2)) := by
    intro σ s hE
    unfold sp_Tk_weigh
    simp only [hE, e0, e2]
    simp
    rfl
  have bTb : ∀ m c : Int32, b16 m → b16 c → q_Tk_behindTrap (q_Codes_pair m c) = q_Codes_pair (q_Codes_behindTrap m) (q_Codes_behindTrap c) := by
    intro m c hm hc
    unfold q_Tk_behindTrap
    rw [must_pair hm hc, can_pair hc]
  refine ⟨⟨q_join xm (q_low (co xm)), q_join xc (q_low (co xc)), ?_, ?_, ?_, ?_⟩, ⟨q_join uc (q_low (co uc)), ?_, ?_, ?_⟩⟩
  · rw [mwF_m hp]; unfold mw_must; simp only [hk, hx, f1]; rfl
  · rw [mwF_c hp]; unfold mw_can; simp only [hk, hx, f2]; rfl
  · refine ⟨?_, ?_, ?_, ?_⟩
    · rw [co_join, low_eq f3.1]; exact b16_bT f3.1
    · rw [co_join, low_eq f3.2.1]; exact b16_bT f3.2.1
    · rw [co_join, low_eq f3.1]; exact am1_bT f3.1 f3.2.2.1
    · rw [co_join, co_join, low_eq f3.1, low_eq f3.2.1]; exact sub_bT f3.1 f3.2.1 f3.2.2.2
  · intro σ hE hS h3 h4
    obtain ⟨m, c, r1, r2, r3⟩ := f4 σ hE hS h3 h4
    refine ⟨m, c, ?_, fun j hj => by rw [r2 j hj, sg_join hj], fun j hj => by rw [r3 j hj, sg_join hj]⟩
    rw [hcl σ 1 hE, r1]
    simp only
    rw [bTb _ _ f3.1 f3.2.1, co_join, co_join, low_eq f3.1, low_eq f3.2.1]
  · rw [mwF_c hp]; unfold mw_can; simp only [hk, hx, u1]; rfl
  · rw [co_join, low_eq u2]; exact b16_bT u2
  · intro σ hE hS h3 h4
    obtain ⟨m, c, r1, r2, r3⟩ := u3 σ hE hS h3 h4
    refine ⟨m, c, ?_, fun j hj => r2 j hj, fun j hj => by rw [r3 j hj, sg_join hj]⟩
    rw [hcl σ 0 hE, r1]
    simp only
    rw [bTb _ _ b16_0 u2, co_join, low_eq u2]
    rfl
theorem ws_4 {p : Int32} {a : Nat} {x : Int32 × Nat} (hp : gi p 2600 = true) (hk : T 20 p.toNatClampNeg = 4) (e0 : egI E a 2 0 = some 4) (hc : chn T E [x] (T 23 p.toNatClampNeg) (some x.2)) (e2 : egR E a 2 2 = some (some x.2)) (hst : T 25 p.toNatClampNeg &&& S ≠ 0 → T 25 x.1.toNatClampNeg &&& S ≠ 0) (hW : WS T S E β f g Γ x.1 x.2) : WS T S E β (mwF T S f) (sp_Tk_weigh g) Γ p a := by
  have hx := hc.1
  intro K th mi hK res b hrb
  have hmm : ∀ K, mwF T S f false p res 0 K = mw_ml f x.1 res K := by
    intro K
    rw [mwF_m hp]; unfold mw_must; simp only [hk, hx]; rfl
  have hcc : ∀ s K, mwF T S f true p res s K = mw_cl f x.1 res s K := by
    intro s K
    rw [mwF_c hp]; unfold mw_can; simp only [hk, hx]; rfl
  have hcl : ∀ (σ : ck_S) (s : Int32), σ.2.2.2.1 = E → sp_Tk_weigh g (some a) b s σ = sp_Tk_weighLoop g (some a) b s σ := by
    intro σ s hE
    unfold sp_Tk_weigh
    simp only [hE, e0]
    simp
    cases sp_Tk_weighLoop g (some a) b s σ <;> rfl
  rcases hrb with ⟨hr, hb⟩ | ⟨hr, hb, hs⟩
  · subst hr hb
    obtain ⟨⟨xm, xc, f1, f2, f3, f4⟩, ⟨uc, u1, u2, u3⟩⟩ := hW K th mi hK 0 1 (Or.inl ⟨rfl, rfl⟩)
    have hcl' : ∀ (σ : ck_S) (s : Int32), σ.2.2.2.1 = E → sp_Tk_weigh g (some a) 1 s σ = g (some x.2) 1 s σ := by
      intro σ s hE
      rw [hcl σ s hE]
      unfold sp_Tk_weighLoop
      simp only [hE, e2]
      simp
      cases g (some x.2) 1 s σ <;> rfl
    refine ⟨⟨xm, xc, ?_, ?_, f3, TW_eq (fun σ hE _ _ _ => hcl' σ 1 hE) f4⟩, ⟨uc, ?_, u2, TW_eq (fun σ hE _ _ _ => hcl' σ 0 hE) u3⟩⟩
    · rw [hmm]; unfold mw_ml; simp only [f1]; rfl
    · rw [hcc]; unfold mw_cl; simp only [f2]; rfl
    · rw [hcc]; unfold mw_cl; simp only [u1]; rfl
  · subst hr hb
    obtain ⟨⟨xm, xc, f1, f2, f3, f4⟩, ⟨uc, u1, u2, u3⟩⟩ := hW K th mi hK 1 0 (Or.inr ⟨rfl, rfl, hst hs⟩)
    obtain ⟨⟨xm0, xc0, k1, k2, k3, k4⟩, ⟨uc0, v1, v2, v3⟩⟩ := hW K th mi hK 0 1 (Or.inl ⟨rfl, rfl⟩)
    have hcl' : ∀ (σ : ck_S) (s r m c : Int32), σ.2.2.2.1 = E → g (some x.2) 0 s σ = some (r, (upd (upd σ.1 5 m) 6 c, σ.2)) → sp_Tk_weigh g (some a) 0 s σ = sp_Tk_weighBehind g r (some x.2) s (upd (upd σ.1 5 m) 6 c, σ.2) := by
      intro σ s r m c hE hg
      rw [hcl σ s hE]
      unfold sp_Tk_weighLoop
      simp only [hE, e2, hg]
      simp
      cases sp_Tk_weighBehind g r (some x.2) s (upd (upd σ.1 5 m) 6 c, σ.2) <;> rfl
    constructor
    · cases hc0 : bt (co xc) 0 with
      | false =>
        have hm0 : bt (co xm) 0 = false := by
          cases hb : bt (co xm) 0
          · rfl
          · rw [f3.2.2.2 0 hb] at hc0; cases hc0
        refine ⟨xm, xc, ?_, ?_, f3, ?_⟩
        · rw [hmm]; unfold mw_ml; simp only [f1, hasC_eq, hm0]; simp
        · rw [hcc]; unfold mw_cl; simp only [f2, hasC_eq, hc0]; simp
        · intro σ hE hS h3 h4
          obtain ⟨m, c, r1, r2, r3⟩ := f4 σ hE hS h3 h4
          refine ⟨m, c, ?_, r2, r3⟩
          rw [hcl' σ 1 _ m c hE r1, bh_stop ((can0 f3.2.1).mpr hc0)]
      | true =>
        cases hm0 : bt (co xm) 0 with
        | false =>
          refine ⟨xm, q_behind xc uc0, ?_, ?_, ckk_bh1 f3 hm0 v2, ?_⟩
          · rw [hmm]; unfold mw_ml; simp only [f1, hasC_eq, hm0]; simp
          · rw [hcc]; unfold mw_cl; simp only [f2, hasC_eq, hc0, f1, hm0, v1]; simp
          · intro σ hE hS h3 h4
            obtain ⟨m, c, r1, r2, r3⟩ := f4 σ hE hS h3 h4
            obtain ⟨y, m', c', y1, y2, y3, y4, y5⟩ := (bh_s (σ := (upd (upd σ.1 5 m) 6 c, σ.2)) hW hK f3 hc0 hE hS h3 h4 r2 r3).1 hm0
            rw [v1] at y1
            obtain rfl := Option.some.inj y1
            refine ⟨m', c', ?_, y4, y5⟩
            rw [hcl' σ 1 _ m c hE r1, y3, up56]
        | true =>
          refine ⟨q_behind xm xm0, q_behind xc xc0, ?_, ?_, ckk_bh2 f3 hm0 k3, ?_⟩
          · rw [hmm]; unfold mw_ml; simp only [f1, hasC_eq, hm0, k1]; simp
          · rw [hcc]; unfold mw_cl; simp only [f2, hasC_eq, hc0, f1, hm0, k2]; simp
          · intro σ hE hS h3 h4
            obtain ⟨m, c, r1, r2, r3⟩ := f4 σ hE hS h3 h4
            obtain ⟨z, y, m', c', y0, y1, y2, yz, y3, y4, y5⟩ := (bh_s (σ := (upd (upd σ.1 5 m) 6 c, σ.2)) hW hK f3 hc0 hE hS h3 h4 r2 r3).2 hm0
            rw [k1] at y0
            obtain rfl := Option.some.inj y0
            rw [k2] at y1
            obtain rfl := Option.some.inj y1
            refine ⟨m', c', ?_, y4, y5⟩
            rw [hcl' σ 1 _ m c hE r1, y3, up56]
    · cases hc0 : bt (co uc) 0 with
      | false =>
        refine ⟨uc, ?_, u2, ?_⟩
        · rw [hcc]; unfold mw_cl; simp only [u1, hasC_eq, hc0]; simp
        · intro σ hE hS h3 h4
          obtain ⟨m, c, r1, r2, r3⟩ := u3 σ hE hS h3 h4
          refine ⟨m, c, ?_, r2, r3⟩
          rw [hcl' σ 0 _ m c hE r1, bh_stop ((can0 u2).mpr hc0)]
      | true =>
        refine ⟨q_behind uc uc0, ?_, ?_, ?_⟩
        · rw [hcc]; unfold mw_cl; simp only [u1, hasC_eq, hc0, v1]; simp
        · rw [co_bh]; exact b16_or (b16_andl u2) v2
        · intro σ hE hS h3 h4
          obtain ⟨m, c, r1, r2, r3⟩ := u3 σ hE hS h3 h4
          obtain ⟨y, m', c', y1, y2, y3, y4, y5⟩ := bh_u (σ := (upd (upd σ.1 5 m) 6 c, σ.2)) (Bm := fun j => (nz β (σ.1 5) j || false)) hW hK u2 hc0 hE hS h3 h4 r2 r3
          rw [v1] at y1
          obtain rfl := Option.some.inj y1
          refine ⟨m', c', ?_, y4, y5⟩
          rw [hcl' σ 0 _ m c hE r1, y3, up56]
end W6
