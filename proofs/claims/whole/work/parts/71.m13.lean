section W9
variable {T : mw_A} {S : Int32} {E : ck_E} {β : Nat → Int32} {f : mw_F} {g G : tw_G} {Γ : Nat → Bool} {th mi : Int32} {K : Nat → Int32}
theorem ws_8 {p : Int32} {a j : Nat} {x : Int32 × Nat} (hp : gi p 2600 = true) (hk : T 20 p.toNatClampNeg = 8) (e0 : egI E a 2 0 = some 8) (hj : j < 26) (hΓ : Γ j = false) (hl : T 21 p.toNatClampNeg = Int32.ofNat j) (e1 : egI E a 2 1 = some (β j)) (hO : bO β) (hb0 : β j ≠ 0) (hc : chn T E [x] (T 23 p.toNatClampNeg) (some x.2)) (e2 : egR E a 2 2 = some (some x.2)) (hst : T 25 p.toNatClampNeg &&& S ≠ 0 → T 25 x.1.toNatClampNeg &&& S ≠ 0) (hW : WS T S E β f g (zext Γ j) x.1 x.2) : WS T S E β (mwF T S f) (sp_Tk_weigh g) Γ p a := by
  have hx := hc.1
  have hgi : gi (Int32.ofNat j) 26 = true := gi_of hj (by decide)
  have hcj : (Int32.ofNat j).toNatClampNeg = j := cl_of (by omega)
  intro K th mi hK res b hrb
  have hrb' : (res = 0 ∧ b = 1 ∨ res = 1 ∧ b = 0 ∧ T 25 x.1.toNatClampNeg &&& S ≠ 0) := by
    rcases hrb with h | ⟨h1, h2, h3⟩
    · exact Or.inl h
    · exact Or.inr ⟨h1, h2, hst h3⟩
  obtain ⟨ht, hi⟩ := (hK j hj).2 hΓ
  obtain ⟨⟨xm, xc, f1, f2, f3, f4⟩, ⟨uc, u1, u2, u3⟩⟩ := hW _ th mi (kn_0 hK hΓ) res b hrb'
  obtain ⟨⟨xmA, xcA, fA1, fA2, fA3, fA4⟩, ⟨ucA, uA1, uA2, uA3⟩⟩ := hW _ (th ||| β j) mi (kn_1 hO hj hb0 hK hΓ) res b hrb'
  obtain ⟨⟨xmB, xcB, fB1, fB2, fB3, fB4⟩, ⟨ucB, uB1, uB2, uB3⟩⟩ := hW _ th (mi ||| β j) (kn_2 hO hj hb0 hK hΓ) res b hrb'
  have hmm : mwF T S f false p res 0 K = mw_mc T f p res K := by
    rw [mwF_m hp]; unfold mw_must; simp only [hk]; rfl
  have hcc : ∀ s, mwF T S f true p res s K = mw_cc T f p res s K := by
    intro s
    rw [mwF_c hp]; unfold mw_can; simp only [hk]; rfl
  have hlk : mw_lk T f p res K = some (upd K j (if sg xm j = true then 1 else if sg xc j = true then 0 else 2)) := by
    unfold mw_lk
    simp only [hp, hl, hgi, hcj, hx, f1, f2, hasS_eq hj]
    cases sg xm j <;> cases sg xc j <;> simp
  have ckw : ∀ y z : Int64, ckk y z → ckk (q_wo y (Int32.ofNat j)) (q_wo z (Int32.ofNat j)) := by
    intro y z h
    unfold ckk
    rw [co_wo hj, co_wo hj]
    exact h
  obtain ⟨L1, L2, L3⟩ := loc_cl (g := g) (a := a) e0 e1 e2 hO hj ht hi f4
  obtain ⟨M1, M2, M3⟩ := loc_cl (g := g) (a := a) e0 e1 e2 hO hj ht hi u3
  have fin : ∀ (s : Int32) (y z : Int64), TW E β S th mi (sp_Tk_weigh g) (some a) b s (q_Codes_pair (co y) (co z)) (fun i => sg y i && !decide (i = j)) (fun i => sg z i && !decide (i = j)) → TW E β S th mi (sp_Tk_weigh g) (some a) b s (q_Codes_pair (co (q_wo y (Int32.ofNat j))) (co (q_wo z (Int32.ofNat j)))) (sg (q_wo y (Int32.ofNat j))) (sg (q_wo z (Int32.ofNat j))) := by
    intro s y z h
    rw [co_wo hj, co_wo hj]
    exact TW_cg (fun i hi => (sg_wo hj hi).symm) (fun i hi => (sg_wo hj hi).symm) h
  have finu : ∀ (s : Int32) (z : Int64), TW E β S th mi (sp_Tk_weigh g) (some a) b s (q_Codes_pair 0 (co z)) (fun i => false && !decide (i = j)) (fun i => sg z i && !decide (i = j)) → TW E β S th mi (sp_Tk_weigh g) (some a) b s (q_Codes_pair 0 (co (q_wo z (Int32.ofNat j)))) (fun _ => false) (sg (q_wo z (Int32.ofNat j))) := by
    intro s z h
    rw [co_wo hj]
    exact TW_cg (fun i hi => Bool.false_and _) (fun i hi => (sg_wo hj hi).symm) h
  constructor
  · cases hs : sg xm j with
    | true =>
      rw [hs, if_pos rfl] at hlk
      refine ⟨q_wo xmA (Int32.ofNat j), q_wo xcA (Int32.ofNat j), ?_, ?_, ckw _ _ fA3, fin _ _ _ (L2 hs _ _ _ fA4)⟩
      · rw [hmm]; unfold mw_mc; rw [hlk]; simp only [hx, fA1, hl]
      · rw [hcc]; unfold mw_cc; rw [if_neg (by decide), hlk]; simp only [hx, fA2, hl]
    | false =>
      cases hs2 : sg xc j with
      | true =>
        rw [hs, hs2, if_neg (by decide), if_pos rfl] at hlk
        refine ⟨q_wo xm (Int32.ofNat j), q_wo xc (Int32.ofNat j), ?_, ?_, ckw _ _ f3, fin _ _ _ (L1 hs hs2)⟩
        · rw [hmm]; unfold mw_mc; rw [hlk]; simp only [hx, f1, hl]
        · rw [hcc]; unfold mw_cc; rw [if_neg (by decide), hlk]; simp only [hx, f2, hl]
      | false =>
        rw [hs, hs2, if_neg (by decide), if_neg (by decide)] at hlk
        refine ⟨q_wo xmB (Int32.ofNat j), q_wo xcB (Int32.ofNat j), ?_, ?_, ckw _ _ fB3, fin _ _ _ (L3 hs hs2 _ _ _ fB4)⟩
        · rw [hmm]; unfold mw_mc; rw [hlk]; simp only [hx, fB1, hl]
        · rw [hcc]; unfold mw_cc; rw [if_neg (by decide), hlk]; simp only [hx, fB2, hl]
  · cases hs2 : sg uc j with
    | true =>
      refine ⟨q_wo uc (Int32.ofNat j), ?_, by rw [co_wo hj]; exact u2, finu _ _ (M1 rfl hs2)⟩
      rw [hcc]; unfold mw_cc; simp only [hp, hl, hgi, hcj, hx, u1, hasS_eq hj, hs2]; simp
    | false =>
      refine ⟨q_wo ucB (Int32.ofNat j), ?_, by rw [co_wo hj]; exact uB2, finu _ _ (M3 rfl hs2 _ _ _ uB3)⟩
      rw [hcc]; unfold mw_cc; simp only [hp, hl, hgi, hcj, hx, u1, hasS_eq hj, hs2, uB1]; simp
theorem ws_10 {p : Int32} {a : Nat} {xs : List (Int32 × Nat)} {c : Option Nat} (hp : gi p 2600 = true) (hk : T 20 p.toNatClampNeg = 10) (e0 : egI E a 2 0 = some 10) (hc : chn T E xs (T 23 p.toNatClampNeg) c) (e2 : egR E a 2 2 = some c) (hne : xs ≠ []) (hlen : xs.length ≤ 2600) (hst : T 25 p.toNatClampNeg &&& S ≠ 0 → ∃ z ∈ xs, T 25 z.1.toNatClampNeg &&& S ≠ 0) (hW : ∀ z ∈ xs, WS T S E β f g Γ z.1 z.2) : WS T S E β (mwF T S f) (sp_Tk_weigh g) Γ p a := by
  intro K th mi hK res b hrb
  have hrb' : res = 0 ∧ b = 1 ∨ res = 1 ∧ b = 0 := by
    rcases hrb with h | ⟨h1, h2, _⟩
    · exact Or.inl h
    · exact Or.inr ⟨h1, h2⟩
  have hmm : mwF T S f false p res 0 K = mw_mp T S f p res K := by
    rw [mwF_m hp]; unfold mw_must; simp only [hk]; rfl
  have hcc : ∀ s, mwF T S f true p res s K = mw_cp T S f p res s K := by
    intro s
    rw [mwF_c hp]; unfold mw_can; simp only [hk]; rfl
  have hcl : ∀ (σ : ck_S) (s : Int32), σ.2.2.2.1 = E → sp_Tk_weigh g (some a) b s σ = sp_Tk_weighBeside_12 g 2601 (some a) b s 1 1 c σ := by
    intro σ s hE
    have : sp_Tk_weighBeside g (some a) b s σ = sp_Tk_weighBeside_12 g 2601 (some a) b s 1 1 c σ := by
      unfold sp_Tk_weighBeside
      simp only [hE, e2]
    unfold sp_Tk_weigh
    simp only [hE, e0, this]
    simp
    cases sp_Tk_weighBeside_12 g 2601 (some a) b s 1 1 c σ <;> rfl
  have hex : ∃ x ∈ xs, res = 0 ∨ T 25 x.1.toNatClampNeg &&& S ≠ 0 := by
    rcases hrb with h | ⟨h1, h2, h3⟩
    · cases xs with
      | nil => exact absurd rfl hne
      | cons y ys => exact ⟨y, by simp, Or.inl h.1⟩
    · obtain ⟨z, hz, hq⟩ := hst h3
      exact ⟨z, hz, Or.inr hq⟩
  have S1 := fun (σ : ck_S) (hE : σ.2.2.2.1 = E) (hS : σ.1 2 = S) (h3 : σ.1 3 = th) (h4 : σ.1 4 = mi) => bes_s hK hrb' xs _ c 2601 2601 2601 1 1 (some a) σ (fun j => nz β (σ.1 5) j) (fun j => nz β (σ.1 6) j) hc (by omega) (by omega) (by omega) hW ckk_1 hE hS h3 h4 (fun j _ => by rw [sg_1, Bool.or_false]) (fun j _ => by rw [sg_1, Bool.or_false])
  have S2 := fun (σ : ck_S) (hE : σ.2.2.2.1 = E) (hS : σ.1 2 = S) (h3 : σ.1 3 = th) (h4 : σ.1 4 = mi) => bes_u hK hrb' xs _ c 2601 2601 1 1 (some a) σ (fun j => nz β (σ.1 5) j) (fun j => nz β (σ.1 6) j) hc (by omega) (by omega) hW b16_1 (Or.inr hex) hE hS h3 h4 (fun j _ => rfl) (fun j _ => by rw [sg_1, Bool.or_false])
  have σ0 : ∃ σ : ck_S, σ.2.2.2.1 = E ∧ σ.1 2 = S ∧ σ.1 3 = th ∧ σ.1 4 = mi := ⟨(fun i => if i = 2 then S else if i = 3 then th else mi, fun _ _ => 0, fun _ => none, E, 0, 0), rfl, rfl, rfl, rfl⟩
  obtain ⟨s0, z1, z2, z3, z4⟩ := σ0
  constructor
  · obtain ⟨rm, rc, _, _, i1, i2, i3, _⟩ := S1 s0 z1 z2 z3 z4
    refine ⟨rm, rc, ?_, ?_, i3, ?_⟩
    · rw [hmm]; unfold mw_mp; rw [if_pos hp]; exact i1
    · rw [hcc]; unfold mw_cp; rw [if_pos hp]; exact i2
    · intro σ hE hS h3 h4
      obtain ⟨rm', rc', m', c', j1, j2, j3, j4, j5, j6⟩ := S1 σ hE hS h3 h4
      rw [i1] at j1
      obtain rfl := Option.some.inj j1
      rw [i2] at j2
      obtain rfl := Option.some.inj j2
      refine ⟨m', c', ?_, j5, j6⟩
      rw [hcl σ 1 hE]
      exact j4
  · obtain ⟨rc, _, _, i2, i3, _⟩ := S2 s0 z1 z2 z3 z4
    refine ⟨rc, ?_, i3, ?_⟩
    · rw [hcc]; unfold mw_cp; rw [if_pos hp]; exact i2
    · intro σ hE hS h3 h4
      obtain ⟨rc', m', c', j2, j3, j4, j5, j6⟩ := S2 σ hE hS h3 h4
      rw [i2] at j2
      obtain rfl := Option.some.inj j2
      refine ⟨m', c', ?_, fun j hj => by rw [j5 j hj, Bool.or_false], j6⟩
      rw [hcl σ 0 hE]
      exact j4
theorem ws_9 {p : Int32} {a : Nat} {xs : List (Int32 × Nat)} {c : Option Nat} (hp : gi p 2600 = true) (hk : T 20 p.toNatClampNeg = 9) (e0 : egI E a 2 0 = some 9) (hc : chn T E xs (T 23 p.toNatClampNeg) c) (e2 : egR E a 2 2 = some c) (hne : xs ≠ []) (hlen : xs.length ≤ 2600) (hst : T 25 p.toNatClampNeg &&& S ≠ 0 → ∃ z ∈ xs, T 25 z.1.toNatClampNeg &&& S ≠ 0) (hW : ∀ z ∈ xs, WS T S E β f g Γ z.1 z.2) : WS T S E β (mwF T S f) (sp_Tk_weigh g) Γ p a := by
  intro K th mi hK res b hrb
  have hmm : mwF T S f false p res 0 K = mw_ms T S f p res K := by
    rw [mwF_m hp]; unfold mw_must; simp only [hk]; rfl
  have hcc : ∀ s, mwF T S f true p res s K = mw_cq T S f p res s K := by
    intro s
    rw [mwF_c hp]; unfold mw_can; simp only [hk]; rfl
  have hcl : ∀ (σ : ck_S) (s : Int32), σ.2.2.2.1 = E → sp_Tk_weigh g (some a) b s σ = sp_Tk_weighRow g (some a) b s σ := by
    intro σ s hE
    unfold sp_Tk_weigh
    simp only [hE, e0]
    simp
    cases sp_Tk_weighRow g (some a) b s σ <;> rfl
  have hfst : ∃ (x : Int32 × Nat) (post : List (Int32 × Nat)) (c' : Option Nat), x ∈ xs ∧ (∀ z ∈ post, z ∈ xs) ∧ post.length < xs.length ∧ mw_fo T S res 2601 (T 23 p.toNatClampNeg) = some x.1 ∧ gi x.1 2600 = true ∧ (res = 0 ∧ b = 1 ∨ res = 1 ∧ b = 0 ∧ T 25 x.1.toNatClampNeg &&& S ≠ 0) ∧ chn T E post (T 24 x.1.toNatClampNeg) c' ∧ (∀ (σ : ck_S) (s r m cc : Int32), σ.2.2.2.1 = E → σ.1 2 = S → g (some x.2) b s σ = some (r, (upd (upd σ.1 5 m) 6 cc, σ.2)) → sp_Tk_weighRow g (some a) b s σ = sp_Tk_weighRow_47 g 2601 (some a) b s (some x.2) r c' (upd (upd σ.1 5 m) 6 cc, σ.2)) := by
    rcases hrb with ⟨hr, hb⟩ | ⟨hr, hb, hs⟩
    · subst hr hb
      cases xs with
      | nil => exact absurd rfl hne
      | cons y ys =>
        obtain ⟨h1, h2, h3, h4, c', h5, h6⟩ := hc
        refine ⟨y, ys, c', by simp, fun z hz => List.mem_cons_of_mem _ hz, by simp, ?_, h3, Or.inl ⟨rfl, rfl⟩, h6, ?_⟩
        · unfold mw_fo; rw [if_pos rfl, h1]
        · intro σ s r m cc hE hS hg
          unfold sp_Tk_weighRow
          rw [if_neg (by decide)]
          simp only [hE, e2, h2, hg, h5]
    · subst hr hb
      obtain ⟨pre, z, post, c', l1, l2, l3, l4, l5, l6, l7, l8⟩ := fo_pt (v0 := a) (S := S) (σ := (fun _ => 0, fun _ _ => 0, fun _ => none, E, 0, 0)) xs _ _ 2601 2601 hc (by omega) (by omega) (hst hs) rfl
      refine ⟨z, post, c', by rw [l1]; simp, fun w hw => by rw [l1]; simp [hw], by rw [l1]; simp; omega, l2, l5, Or.inr ⟨rfl, rfl, l4⟩, l7, ?_⟩
      intro σ s r m cc hE hS hg
      have hpt : sp_Node_partThatStands a S σ = some (some z.2, σ) := by
        obtain ⟨pre', z', post', c'', m1, m2, m3, m4, m5, m6, m7, m8⟩ := fo_pt (v0 := a) (S := S) (σ := σ) xs _ _ 2601 2601 hc (by omega) (by omega) (hst hs) hE
        unfold sp_Node_partThatStands
        rw [hE, e2]
        simp only
        rw [m3]
        have : z = z' := by
          have e := l1.symm.trans m1
          clear l1 m1
          induction pre generalizing pre' with
          | nil =>
            cases pre' with
            | nil => injection e
            | cons q qs =>
              injection e with e1 _
              exact absurd (m8 q (by simp)) (e1 ▸ l4)
          | cons q qs ih =>
            cases pre' with
            | nil =>
              injection e with e1 _
              exact absurd (l8 q (by simp)) (e1 ▸ m4)
            | cons q' qs' =>
              injection e with _ e2
              exact ih (fun y hy => l8 y (List.mem_cons_of_mem _ hy)) qs' (fun y hy => m8 y (List.mem_cons_of_mem _ hy)) e2
        rw [this]
      unfold sp_Tk_weighRow
      rw [if_pos rfl]
      simp only [hE, eo_ofI e0, hS, hpt, hg, l6]
      simp
  obtain ⟨x, post, c', hx, hsub, hlt, hfo, hgx, hrx, hch, hgo⟩ := hfst
  have hWp : ∀ z ∈ post, WS T S E β f g Γ z.1 z.2 := fun z hz => hW z (hsub z hz)
  obtain ⟨⟨xm, xc, f1, f2, f3, f4⟩, ⟨uc, u1, u2, u3⟩⟩ := hW x hx K th mi hK res b hrx
  have S1 := fun (σ : ck_S) (hE : σ.2.2.2.1 = E) (hS : σ.1 2 = S) (h3 : σ.1 3 = th) (h4 : σ.1 4 = mi) (Bm Bc : Nat → Bool) => row_s hK post _ c' 2601 2601 2601 xm xc _ (some a) b (some x.2) σ Bm Bc hch (by omega) (by omega) (by omega) hWp f3 rfl hE hS h3 h4
  have S2 := fun (σ : ck_S) (hE : σ.2.2.2.1 = E) (hS : σ.1 2 = S) (h3 : σ.1 3 = th) (h4 : σ.1 4 = mi) (Bm Bc : Nat → Bool) => row_u hK post _ c' 2601 2601 uc (some a) b (some x.2) σ Bm Bc hch (by omega) (by omega) hWp u2 hE hS h3 h4
  have σ0 : ∃ σ : ck_S, σ.2.2.2.1 = E ∧ σ.1 2 = S ∧ σ.1 3 = th ∧ σ.1 4 = mi := ⟨(fun i => if i = 2 then S else if i = 3 then th else mi, fun _ _ => 0, fun _ => none, E, 0, 0), rfl, rfl, rfl, rfl⟩
  obtain ⟨s0, z1, z2, z3, z4⟩ := σ0
  constructor
  · obtain ⟨m0, c0, r1, r2, r3⟩ := f4 s0 z1 z2 z3 z4
    obtain ⟨rm, rc, _, _, i1, i2, i3, _⟩ := S1 (upd (upd s0.1 5 m0) 6 c0, s0.2) z1 z2 z3 z4 (fun j => nz β (s0.1 5) j) (fun j => nz β (s0.1 6) j) r2 r3
    refine ⟨rm, rc, ?_, ?_, i3, ?_⟩
    · rw [hmm]; unfold mw_ms; rw [if_pos hp, hfo]; simp only [f1]; rw [if_pos hgx]; exact i1
    · rw [hcc]; unfold mw_cq; rw [if_pos hp, hfo]; simp only [f2]; rw [if_neg (by decide), f1]; simp only; rw [if_pos hgx, hasC_eq]
      cases hb : bt (co xm) 0 with
      | false =>
        rw [hb, if_neg (by decide)] at i2
        simp only [Bool.false_eq_true, if_false, if_true]
        exact i2
      | true =>
        rw [hb, if_pos rfl] at i2
        simp only [if_true]
        rw [if_neg (by decide)]
        exact i2
    · intro σ hE hS h3 h4
      obtain ⟨m, cc, q1, q2, q3⟩ := f4 σ hE hS h3 h4
      obtain ⟨rm', rc', m', c'', j1, j2, j3, j4, j5, j6⟩ := S1 (upd (upd σ.1 5 m) 6 cc, σ.2) hE hS h3 h4 (fun j => nz β (σ.1 5) j) (fun j => nz β (σ.1 6) j) q2 q3
      rw [i1] at j1
      obtain rfl := Option.some.inj j1
      rw [i2] at j2
      obtain rfl := Option.some.inj j2
      refine ⟨m', c'', ?_, j5, j6⟩
      rw [hcl σ 1 hE, hgo σ 1 _ m cc hE hS q1, j4, up56]
  · obtain ⟨m0, c0, r1, r2, r3⟩ := u3 s0 z1 z2 z3 z4
    obtain ⟨rc, _, _, i2, i3, _⟩ := S2 (upd (upd s0.1 5 m0) 6 c0, s0.2) z1 z2 z3 z4 (fun j => nz β (s0.1 5) j || false) (fun j => nz β (s0.1 6) j) r2 r3
    refine ⟨rc, ?_, i3, ?_⟩
    · rw [hcc]; unfold mw_cq; rw [if_pos hp, hfo]; simp only [u1]; rw [if_pos trivial, if_pos hgx]; exact i2
    · intro σ hE hS h3 h4
      obtain ⟨m, cc, q1, q2, q3⟩ := u3 σ hE hS h3 h4
      obtain ⟨rc', m', c'', j2, j3, j4, j5, j6⟩ := S2 (upd (upd σ.1 5 m) 6 cc, σ.2) hE hS h3 h4 (fun j => nz β (σ.1 5) j || false) (fun j => nz β (σ.1 6) j) q2 q3
      rw [i2] at j2
      obtain rfl := Option.some.inj j2
      refine ⟨m', c'', ?_, j5, j6⟩
      rw [hcl σ 0 hE, hgo σ 0 _ m cc hE hS q1, j4, up56]
end W9
