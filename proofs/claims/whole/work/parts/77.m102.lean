def MC (len : Nat) (h h' : ck_S) : Prop := h'.2.2.2.2.1 ≤ h.2.2.2.2.1 + 12 * len + 18 ∧ h'.2.2.2.2.2 ≤ h.2.2.2.2.2 + 72 * len + 246 ∧ h.2.2.2.2.1 ≤ h'.2.2.2.2.1
section Q3
variable {n0 len np nI lim hi sz : Nat} {r rs : Nat → Int32} {T Ts : Nat → Nat → Int32} {g pg ig : Nat → Option Nat} {k9 k10 : Option Nat} {σ σ' : gm_S} {h h' : ck_S} {E E' : ck_E}
theorem keepR {c' : ck_S} {g' : Nat → Option Nat} (hx : RX n0 len np nI r rs T Ts g pg ig k9 k10 σ h) (ha : AR (n0 + 1) c' g') (hd : RDo (n0 + 1) len (vR n0 h) c') : RC n0 (eput rd_K n0 (in_B h.2.2.2.1 n0) c') c'.1 c'.2.1 g' ∧ (∀ q, q < h.2.2.2.2.1 → ¬ iR n0 q → q ≠ n0 + 1 → eput rd_K n0 (in_B h.2.2.2.1 n0) c' q = h.2.2.2.1 q) ∧ eB (n0 + 17) h.2.2.2.2.1 h.2.2.2.1 (eput rd_K n0 (in_B h.2.2.2.1 n0) c') ∧ eB (n0 + 17) c'.2.2.2.2.1 c'.2.2.2.1 (eput rd_K n0 (in_B h.2.2.2.1 n0) c') ∧ h.2.2.2.2.1 ≤ c'.2.2.2.2.1 ∧ (∀ q, ¬ iR n0 q → eput rd_K n0 (in_B h.2.2.2.1 n0) c' q = c'.2.2.2.1 q) := by
  obtain ⟨x1, x2, x3, x4, x5, x6, x7, x8, x9⟩ := hx
  obtain ⟨u1, u2⟩ := rd_put x2 c'
  have hnx := x1.2.2.2.2.2
  have d4 : ∀ q, q < h.2.2.2.2.1 → q ≠ n0 + 1 → c'.2.2.2.1 q = edel h.2.2.2.1 rd_K n0 (in_B h.2.2.2.1 n0) q := hd.2.2.2.1
  have d5 : h.2.2.2.2.1 ≤ c'.2.2.2.2.1 := hd.2.2.2.2.1
  have hE : ∀ q, q < h.2.2.2.2.1 → ¬ iR n0 q → q ≠ n0 + 1 → eput rd_K n0 (in_B h.2.2.2.1 n0) c' q = h.2.2.2.1 q := fun q h1 h2 h3 => by
    rw [u1 q h2, d4 q h1 h3]
    exact rd_del x2 h2
  refine ⟨u2 ha.1 g' ha.2.2, hE, eB_of fun q hq => ?_, eB_of fun q hq => ?_, d5, u1⟩
  · by_cases h1 : iR n0 q
    · refine Or.inr ?_
      unfold iR at h1
      rcases h1 with e | ⟨e1, e2⟩
      · rw [e]
        exact eN_o x2.1 (by decide) (by decide)
      · have := x2.2.2 (q - n0 - 1) (by omega) (by omega)
        rw [show n0 + 1 + (q - n0 - 1) = q by omega] at this
        exact eN_a this (by omega)
    · by_cases h2 : q = n0 + 1
      · rw [h2]
        exact Or.inr (eN_r x2.2.1)
      · exact Or.inl (hE q hq h1 h2)
  · by_cases h1 : iR n0 q
    · have hql : q < n0 + 17 ∧ q ≠ n0 + 1 := by unfold iR at h1; omega
      have e0 : c'.2.2.2.1 q = none := by rw [d4 q (by omega) hql.2]; exact rd_dl0 x2 h1
      refine Or.inr ⟨fun fs e => ?_, fun fs e => ?_, Or.inl hql.1⟩ <;> (rw [e0] at e; cases e)
    · exact Or.inl (u1 q h1)
theorem rY_n {σ σ' : gm_S} (h : rY σ σ') {j : Nat} (hj : j = 0 ∨ j = 1 ∨ j = 3 ∨ j = 5 ∨ j = 7 ∨ j = 8 ∨ j = 9 ∨ j = 44 ∨ j = 50 ∨ j = 51 ∨ j = 55) : σ'.1 j = σ.1 j := h.1 j (by omega) (by omega) (by omega) (by omega) (by omega) (by omega) (by omega) (by omega) (by omega) (by omega)
theorem rY_a {σ σ' : gm_S} (h : rY σ σ') {j : Nat} (hj : j = 2 ∨ j = 4 ∨ j = 6 ∨ (45 ≤ j ∧ j ≤ 48) ∨ j = 56) : σ'.2 j = σ.2 j := h.2.1 j (by omega) (by omega) (by omega) (by omega) (by omega)
theorem RS_cg (h50 : σ'.1 50 = σ.1 50) (h51 : σ'.1 51 = σ.1 51) (h55 : σ'.1 55 = σ.1 55) (h56 : σ'.2 56 = σ.2 56) (h : RS rs Ts σ) : RS rs Ts σ' := by
  unfold RS at h ⊢
  rw [h50, h51, h55, h56]
  exact h
theorem module_k (hR : REL n0 σ h) : ∃ b σ', sp_Md_module σ = some (b, σ') ∧ LN σ' = 0 ∧ ((σ'.1 0 = 0 ∧ ∃ h', sp_H_module h = some (b, h') ∧ REL n0 σ' h' ∧ MC (LN σ) h h') ∨ (σ'.1 0 = 1 ∧ ∃ v h', sp_H_thrown h = some (v, h') ∧ REL n0 σ' h' ∧ MC (LN σ) h h')) := by
  obtain ⟨len, np, nI, r, rs, T, Ts, g, pg, ig, k9, k10, hx⟩ := hR
  have hx0 := hx
  obtain ⟨x1, x2, x3, x4, x5, x6, x7, x8, x9⟩ := hx
  obtain ⟨s1, s2, s3, s4, s5⟩ := rd_in x2
  have hnx := x1.2.2.2.2.2
  have hl := x5.1
  have h1 : σ.1 1 = Int32.ofNat len := x5.2.2.1
  have hLN : LN σ = len := by
    unfold LN
    rw [h1, cl_of (by omega)]
  obtain ⟨m2, f, f1, f2, _⟩ := copy_r (sz := len) (L := fun m i σ => sp_Md_module_10 m (Int32.ofNat i) σ) (dst := 4) (src := 2) (by decide) (s10 hl) len 0 2601 (upd σ.1 3 (σ.1 1), σ.2) (by show σ.1 1 = _; exact h1) (by omega) (by omega)
  have f1' : sp_Md_module σ = sp_Md_module_10 (m2 + 1) (Int32.ofNat len) (upd σ.1 3 (σ.1 1), gm_up σ.2 4 f) := f1
  have f2' : ∀ i, i < len → f i = σ.2 2 i := fun i hi => f2 i (by omega) hi
  have hAR : AR (n0 + 1) (vR n0 h) g := ⟨s3, (by show n0 + 1 < h.2.2.2.2.1; omega), (rd_del x2 (by unfold iR; omega)).trans x2.2.1⟩
  obtain ⟨hTJ, n, c', g', t1, t2, t3, t4⟩ := whole_t (lim := n0 + 17) (sz := len) (σ := (upd (upd σ.1 3 (σ.1 1)) 1 0, gm_up σ.2 4 f)) (c := vR n0 h) (b := n0 + 1) (g := g) (by show σ.1 1 = _; exact h1) hl (by show in_r _ _ 6 = _; rw [s2 6 (by decide) (by decide)]; exact x5.2.1) (fun i hi => by
    obtain ⟨ch, a1, a2, a3, _⟩ := x5.2.2.2 i hi
    exact ⟨ch, a1, a2, by show in_t _ _ 1 i = _; rw [s4 1 (by decide) (by decide)]; exact a3⟩) (fun i hi => by
    obtain ⟨ch, a1, a2, a3, a4⟩ := x5.2.2.2 i hi
    show f i = in_t _ _ 1 i
    rw [s4 1 (by decide) (by decide), f2' i hi, a3, a4]) hAR hnx x7.2.2.1
  obtain ⟨rr, σ3, n', c'', g'', q1, q2, q3, q4, q5⟩ := hTJ
  rw [t1] at q2
  have hinj := Option.some.inj q2
  have hcc : c'' = c' := (congrArg Prod.snd hinj).symm
  subst hcc
  have hnn : Int32.ofNat n = Int32.ofNat n' := congrArg Prod.fst hinj
  have hgg : g'' = g' := AR_u q4 t3
  subst hgg
  obtain ⟨kR, kE, kB, kB', kN, kU⟩ := keepR hx0 t3 t4
  have hMC : ∀ (ρ : Nat → Int32) (X : ck_E), MC (LN σ) h (ρ, h.2.1, h.2.2.1, X, c''.2.2.2.2.1, c''.2.2.2.2.2) := fun ρ X => by
    rw [hLN]
    exact ⟨t4.2.2.2.2.2.1, t4.2.2.2.2.2.2, kN⟩
  have hTx : ∀ σ' : gm_S, σ'.1 1 = 0 → RTx 0 c''.1 c''.2.1 σ' := fun σ' e => ⟨by omega, t4.1, e, fun i hi => absurd hi (by omega)⟩
  have z1 : σ3.1 1 = 0 := (rY_n q3 (by omega)).trans rfl
  have a56 : σ3.2 56 = σ.2 56 := rY_a q3 (by omega)
  have m10 : ∀ x, sp_Md_isModule (upd (upd σ.1 3 (σ.1 1)) 1 0, gm_up σ.2 4 f) = some x → sp_Md_module σ = (if x.1 = 0 then sp_Md_module_156 2601 x.1 0 ((upd (upd (upd (upd x.2.1 8 (x.2.1 36)) 9 (x.2.1 37)) 0 1) 3 (x.2.1 5)), x.2.2) else sp_Md_module_110 2601 x.1 0 ((upd (upd (upd (upd (upd x.2.1 8 0) 9 0) 0 0) 7 1) 5 (x.2.1 3)), x.2.2)) := by
    intro x hxx
    rw [f1', sp_Md_module_10]
    rw [if_pos (show (upd σ.1 3 (σ.1 1)) 3 ≤ Int32.ofNat len by
      show σ.1 1 ≤ _
      rw [h1]
      exact (le_N (by omega) (by omega)).mpr (Nat.le_refl _)), hxx]
  rw [m10 _ q1]
  simp only
  have hSC : ∀ X : ck_E, (∀ q, n0 + 8 ≤ q → q ≤ n0 + 14 → X q = h.2.2.2.1 q) → SC n0 X rs Ts k9 k10 := fun X hX => SC_fr hX x3
  rcases q5 with ⟨e1, e2, e3, e4, e5, e6, e7⟩ | ⟨e1, e2, e3⟩
  · -- the text told programs
    subst e1
    rw [if_neg (by decide)]
    have hn3 : σ3.1 3 = Int32.ofNat len := (rY_n q3 (by omega)).trans h1
    obtain ⟨m3, fo, o1, o2, _⟩ := copy_r (sz := len) (L := fun m i σ => sp_Md_module_110 m 1 (Int32.ofNat i) σ) (dst := 6) (src := 4) (by decide) (s110 hl) len 0 2601 ((upd (upd (upd (upd (upd σ3.1 8 0) 9 0) 0 0) 7 1) 5 (σ3.1 3)), σ3.2) hn3 (by omega) (by omega)
    have o1' : sp_Md_module_110 2601 1 0 ((upd (upd (upd (upd (upd σ3.1 8 0) 9 0) 0 0) 7 1) 5 (σ3.1 3)), σ3.2) = sp_Md_module_110 (m3 + 1) 1 (Int32.ofNat len) ((upd (upd (upd (upd (upd σ3.1 8 0) 9 0) 0 0) 7 1) 5 (σ3.1 3)), gm_up σ3.2 6 fo) := o1
    have o3 : sp_Md_module_110 (m3 + 1) 1 (Int32.ofNat len) ((upd (upd (upd (upd (upd σ3.1 8 0) 9 0) 0 0) 7 1) 5 (σ3.1 3)), gm_up σ3.2 6 fo) = some (σ3.1 10, ((upd (upd (upd (upd (upd (upd σ3.1 8 0) 9 0) 0 0) 7 1) 5 (σ3.1 3)) 44 0), gm_up σ3.2 6 fo)) := by
      rw [sp_Md_module_110, if_pos (show (upd (upd (upd (upd (upd σ3.1 8 0) 9 0) 0 0) 7 1) 5 (σ3.1 3)) 3 ≤ Int32.ofNat len by
        show σ3.1 3 ≤ _
        rw [hn3]
        exact (le_N (by omega) (by omega)).mpr (Nat.le_refl _))]
      rfl
    rw [o1', o3, e3, ← hnn]
    have hn6 : n ≤ 6 := t2
    have hnn' : n = n' := (eq_N (by omega) (by omega)).mp hnn
    subst hnn'
    refine ⟨_, _, rfl, ?_, Or.inl ⟨rfl, ?_⟩⟩
    · show (σ3.1 1).toNatClampNeg = 0
      rw [z1]
      rfl
    have hM := (modC x1.1 x2 t1 t3 e2).1 rfl
    have hP : ∀ k, k < n → ∃ P, g'' k = some P ∧ zPX (n0 + 17) c''.2.2.2.2.1 σ3.2 (eput rd_K n0 (in_B h.2.2.2.1 n0) c'') k P := fun k hk => by
      obtain ⟨P, p1, p2⟩ := e6 k hk
      exact ⟨P, p1, PX_B kB' (fun _ _ => rfl) (Nat.le_refl _) p2⟩
    obtain ⟨pg', l1, _, l3⟩ := lay49 (n0 := n0) (g := g'') hn6 6 0 2601 (upd (upd h.1 7 0) 8 0, h.2.1, h.2.2.1, eput rd_K n0 (in_B h.2.2.2.1 n0) c'', c''.2.2.2.2) pg (by omega) (by omega) x1.1 x1.2.2.2.1 ((kE _ (by omega) (by unfold iR; omega) (by omega)).trans x4.2.1) kR.2.1 (by
      show egR (eput _ _ _ _) n0 4 0 = _
      unfold egR eg
      rw [kR.1]
      rfl) (fun k hk => by
      obtain ⟨P, p1, p2⟩ := hP k hk
      obtain ⟨ni, no, li, lo, β, Γ, a, nn, x, pa, fp, ⟨_, _, _, _, p5, _⟩, _⟩ := p2
      exact ⟨P, p1, eo_I p5⟩)
    have l1' : sp_H_module_49 2601 (Int32.ofNat n) 0 (upd (upd h.1 7 0) 8 0, h.2.1, h.2.2.1, eput rd_K n0 (in_B h.2.2.2.1 n0) c'', c''.2.2.2.2) = _ := l1
    have l3' : ∀ j, j < n → pg' j = g'' j := fun j hj => l3 j (by omega) hj
    refine ⟨_, hM.trans l1', ?_, hMC _ _⟩
    have hEp : ∀ q, q ≠ n0 + 15 → eset (eput rd_K n0 (in_B h.2.2.2.1 n0) c'') (n0 + 15) (.inl (4, 6, .inr (.inr (.inr (.inr pg'))))) q = eput rd_K n0 (in_B h.2.2.2.1 n0) c'' q := fun q hq => eset_ne hq
    have hp15 : eput rd_K n0 (in_B h.2.2.2.1 n0) c'' (n0 + 15) = some (.inl (4, 6, .inr (.inr (.inr (.inr pg))))) := (kE _ (by omega) (by unfold iR; omega) (by omega)).trans x4.2.1
    have kB2 : eB (n0 + 17) c''.2.2.2.2.1 (eput rd_K n0 (in_B h.2.2.2.1 n0) c'') (eset (eput rd_K n0 (in_B h.2.2.2.1 n0) c'') (n0 + 15) (.inl (4, 6, .inr (.inr (.inr (.inr pg')))))) := eB_set (eN_r hp15)
    refine ⟨0, n, 0, c''.1, rs, c''.2.1, Ts, g'', pg', ig, k9, k10, ⟨x1.1, x1.2.1, x1.2.2.1, x1.2.2.2.1, x1.2.2.2.2.1, by show n0 + 17 ≤ c''.2.2.2.2.1; omega⟩, RC_fr (fun q a b => hEp q (by omega)) kR, hSC _ (fun q a b => (hEp q (by omega)).trans (kE q (by omega) (by unfold iR; omega) (by omega))), ⟨?_, eset_eq, ?_⟩, hTx _ z1, ⟨rfl, rfl⟩, ⟨rfl, hn6, ?_, Or.inr ⟨rfl, e4, e3.trans hnn.symm, e7, fun k hk => ?_, ?_⟩⟩, ⟨rfl, rfl, by omega, fun i hi => absurd hi (by omega), fun i j hi => absurd hi (by omega)⟩, ?_⟩
    · obtain ⟨ρ, hρ⟩ := x4.1
      exact ⟨ρ, ((hEp _ (by omega)).trans (kE _ (by omega) (by unfold iR; omega) (by omega))).trans hρ⟩
    · exact ((hEp _ (by omega)).trans (kE _ (by omega) (by unfold iR; omega) (by omega))).trans x4.2.2
    · exact q3.2.2.trans x7.2.2.1
    · obtain ⟨P, p1, p2⟩ := hP k hk
      refine ⟨P, (l3' k hk).trans p1, PX_B kB2 (fun j hj => ?_) (Nat.le_refl _) p2⟩
      show gm_up σ3.2 6 fo j = _
      unfold gm_up
      rw [if_neg (by omega)]
    · refine ⟨len, vR n0 h, c'', g, g'', hn3, hl, by show in_r _ _ 6 = _; rw [s2 6 (by decide) (by decide)]; exact x5.2.1, fun i hi => ?_, hAR, hnx, t1, e2, t3, fun k hk => (l3' k hk).symm, Nat.le_refl _, eB_tr (Nat.le_refl _) kB' kB2⟩
      obtain ⟨ch, a1, a2, a3, a4⟩ := x5.2.2.2 i hi
      refine ⟨ch, a1, a2, by show in_t _ _ 1 i = _; rw [s4 1 (by decide) (by decide)]; exact a3, ?_⟩
      show fo i = _
      have o2' : fo i = σ3.2 4 i := o2 i (by omega) hi
      rw [o2', rY_a q3 (by omega)]
      show f i = _
      rw [f2' i hi]
      exact a4
    · exact RS_cg (rY_n q3 (by omega)) (rY_n q3 (by omega)) (rY_n q3 (by omega)) a56 x9
  · -- the text has a fault
    subst e1
    rw [if_pos rfl]
    have hM := (modC x1.1 x2 t1 t3 e2).2 e3
    have b5 : σ3.1 5 = σ.1 5 := rY_n q3 (by omega)
    have b7 : σ3.1 7 = σ.1 7 := rY_n q3 (by omega)
    have fin : ∀ σ' : gm_S, σ'.1 1 = 0 → σ'.1 8 = σ3.1 36 → σ'.1 9 = σ3.1 37 → σ'.1 44 = σ.1 44 → σ'.1 50 = σ.1 50 → σ'.1 51 = σ.1 51 → σ'.1 55 = σ.1 55 → (∀ j, (45 ≤ j ∧ j ≤ 48) ∨ j = 56 → σ'.2 j = σ.2 j) → (∀ k, k < np → wI σ'.2 k = wI σ.2 k) → RP n0 np pg σ' (upd (upd h.1 7 (σ3.1 36)) 8 (σ3.1 37), h.2.1, h.2.2.1, eput rd_K n0 (in_B h.2.2.2.1 n0) c'', c''.2.2.2.2) → REL n0 σ' (upd (upd h.1 7 (σ3.1 36)) 8 (σ3.1 37), h.2.1, h.2.2.1, eput rd_K n0 (in_B h.2.2.2.1 n0) c'', c''.2.2.2.2) := by
      intro σ' w1 w8 w9 w44 w50 w51 w55 wA wW wP
      refine ⟨0, np, nI, c''.1, rs, c''.2.1, Ts, g'', pg, ig, k9, k10, ⟨x1.1, x1.2.1, x1.2.2.1, x1.2.2.2.1, x1.2.2.2.2.1, by show n0 + 17 ≤ c''.2.2.2.2.1; omega⟩, kR, hSC _ (fun q a b => kE q (by omega) (by unfold iR; omega) (by omega)), ⟨?_, ?_, ?_⟩, hTx _ w1, ⟨w8.symm, w9.symm⟩, wP, ?_, ?_⟩
      · obtain ⟨ρ, hρ⟩ := x4.1
        exact ⟨ρ, (kE _ (by omega) (by unfold iR; omega) (by omega)).trans hρ⟩
      · exact (kE _ (by omega) (by unfold iR; omega) (by omega)).trans x4.2.1
      · exact (kE _ (by omega) (by unfold iR; omega) (by omega)).trans x4.2.2
      · obtain ⟨p1, p2, p3, p4, p5⟩ := x8
        refine ⟨w44.trans p1, p2, p3, fun i hi => ?_, p5⟩
        obtain ⟨I', k', P', v1, v2, v3, v4, v5, v6, v7, v8⟩ := p4 i hi
        rw [wA 45 (by omega), wA 46 (by omega), wA 47 (by omega), wA 48 (by omega)]
        exact ⟨I', k', P', v1, v2, (by show I' < c''.2.2.2.2.1; omega), v4, v5, v6, (kE I' v3 (by unfold iR; omega) (by omega)).trans v7, by rw [wW k' v4]; exact v8⟩
      · unfold RS at x9 ⊢
        rw [w50, w51, w55, wA 56 (by omega)]
        exact x9
    obtain ⟨p1, p2, p3, p4⟩ := x7
    have n44 : σ3.1 44 = σ.1 44 := rY_n q3 (by omega)
    have n50 : σ3.1 50 = σ.1 50 := rY_n q3 (by omega)
    have n51 : σ3.1 51 = σ.1 51 := rY_n q3 (by omega)
    have n55 : σ3.1 55 = σ.1 55 := rY_n q3 (by omega)
    have nA : ∀ j, (45 ≤ j ∧ j ≤ 48) ∨ j = 56 → σ3.2 j = σ.2 j := fun j hj => (rY_a q3 (by omega)).trans (by
      show gm_up σ.2 4 f j = _
      unfold gm_up
      rw [if_neg (by omega)])
    have n6 : σ3.2 6 = σ.2 6 := rY_a q3 (by omega)
    have n49 : σ3.2 49 0 = 0 := q3.2.2.trans p3
    rcases p4 with ⟨a1, a2, a3⟩ | ⟨a1, a2, a3, a4, a5, a6⟩
    · -- no programs before
      have h30 : (upd (upd (upd (upd σ3.1 8 (σ3.1 36)) 9 (σ3.1 37)) 0 1) 3 (σ3.1 5)) 3 ≤ (0 : Int32) := by
        show σ3.1 5 ≤ 0
        rw [b5, a3]
        decide
      have hend : sp_Md_module_156 2601 0 0 ((upd (upd (upd (upd σ3.1 8 (σ3.1 36)) 9 (σ3.1 37)) 0 1) 3 (σ3.1 5)), σ3.2) = some (0, ((upd (upd (upd (upd σ3.1 8 (σ3.1 36)) 9 (σ3.1 37)) 0 1) 3 (σ3.1 5)), σ3.2)) := by
        show sp_Md_module_156 (2600 + 1) 0 0 _ = _
        rw [sp_Md_module_156, if_pos h30, if_pos (show (upd (upd (upd (upd σ3.1 8 (σ3.1 36)) 9 (σ3.1 37)) 0 1) 3 (σ3.1 5)) 7 = 0 from b7.trans a1)]
      rw [hend]
      refine ⟨_, _, rfl, ?_, Or.inr ⟨rfl, _, _, hM, fin _ z1 rfl rfl n44 n50 n51 n55 nA (fun k hk => by omega) ⟨p1, p2, n49, Or.inl ⟨b7.trans a1, a2, b5.trans a3⟩⟩, hMC _ _⟩⟩
      show (σ3.1 1).toNatClampNeg = 0
      rw [z1]
      rfl
    · -- the old text is read again
      obtain ⟨osz, c0, c1, g0, g1, b1, b2, b3, b4, b5', b6, b7', b8, b9, b10, b11, b12⟩ := a6
      have h53 : σ3.1 5 = Int32.ofNat osz := b5.trans b1
      obtain ⟨m3, fo, o1, o2, _⟩ := copy_r (sz := osz) (L := fun m i σ => sp_Md_module_156 m 0 (Int32.ofNat i) σ) (dst := 4) (src := 6) (by decide) (s156 b2) osz 0 2601 ((upd (upd (upd (upd σ3.1 8 (σ3.1 36)) 9 (σ3.1 37)) 0 1) 3 (σ3.1 5)), σ3.2) h53 (by omega) (by omega)
      have o1' : sp_Md_module_156 2601 0 0 ((upd (upd (upd (upd σ3.1 8 (σ3.1 36)) 9 (σ3.1 37)) 0 1) 3 (σ3.1 5)), σ3.2) = sp_Md_module_156 (m3 + 1) 0 (Int32.ofNat osz) ((upd (upd (upd (upd σ3.1 8 (σ3.1 36)) 9 (σ3.1 37)) 0 1) 3 (σ3.1 5)), gm_up σ3.2 4 fo) := o1
      have o2' : ∀ i, i < osz → fo i = σ3.2 6 i := fun i hi => o2 i (by omega) hi
      obtain ⟨hTJ2, _⟩ := whole_t (lim := n0 + 17) (sz := osz) (σ := ((upd (upd (upd (upd σ3.1 8 (σ3.1 36)) 9 (σ3.1 37)) 0 1) 3 (σ3.1 5)), gm_up σ3.2 4 fo)) (c := c0) (b := n0 + 1) (g := g0) h53 b2 b3 (fun i hi => by
        obtain ⟨ch, u1, u2, u3, _⟩ := b4 i hi
        exact ⟨ch, u1, u2, u3⟩) (fun i hi => by
        obtain ⟨ch, u1, u2, u3, u4⟩ := b4 i hi
        show fo i = _
        rw [o2' i hi, n6, u3, u4]) b5' b6 n49
      obtain ⟨r2, σ6, n2, c1', g1', w1, w2, w3, w4, w5⟩ := hTJ2
      rw [b7'] at w2
      have winj := Option.some.inj w2
      have wcc : c1' = c1 := (congrArg Prod.snd winj).symm
      subst wcc
      have wnn : Int32.ofNat np = Int32.ofNat n2 := congrArg Prod.fst winj
      have wgg : g1' = g1 := AR_u w4 b9
      subst wgg
      rcases w5 with ⟨y1, y2, y3, y4, y5, y6, y7⟩ | ⟨y1, y2, y3⟩
      · subst y1
        have wnn' : np = n2 := (eq_N (by omega) (by omega)).mp wnn
        subst wnn'
        have hend : sp_Md_module_156 (m3 + 1) 0 (Int32.ofNat osz) ((upd (upd (upd (upd σ3.1 8 (σ3.1 36)) 9 (σ3.1 37)) 0 1) 3 (σ3.1 5)), gm_up σ3.2 4 fo) = some (0, ((upd σ6.1 7 1), σ6.2)) := by
          rw [sp_Md_module_156, if_pos (show (upd (upd (upd (upd σ3.1 8 (σ3.1 36)) 9 (σ3.1 37)) 0 1) 3 (σ3.1 5)) 3 ≤ Int32.ofNat osz by
            show σ3.1 5 ≤ _
            rw [h53]
            exact (le_N (by omega) (by omega)).mpr (Nat.le_refl _)), if_neg (show ¬ ((upd (upd (upd (upd σ3.1 8 (σ3.1 36)) 9 (σ3.1 37)) 0 1) 3 (σ3.1 5)) 7 = 0) from fun e => by
            have e' : σ3.1 7 = 0 := e
            rw [b7, a1] at e'
            exact absurd e' (by decide)), w1]
        rw [o1', hend]
        have z6 : σ6.1 1 = 0 := (rY_n w3 (by omega)).trans z1
        have hPX : ∀ k, k < np → ∃ P, pg k = some P ∧ zPX (n0 + 17) c''.2.2.2.2.1 σ6.2 (eput rd_K n0 (in_B h.2.2.2.1 n0) c'') k P ∧ zPX (n0 + 17) c''.2.2.2.2.1 σ.2 (eput rd_K n0 (in_B h.2.2.2.1 n0) c'') k P := fun k hk => by
          obtain ⟨P, u1, u2⟩ := y6 k hk
          obtain ⟨P', v1, v2⟩ := a5 k hk
          have : P' = P := by
            have := (b10 k hk).symm.trans u1
            rw [v1] at this
            cases this
            rfl
          subst this
          exact ⟨P', v1, PX_B kB (fun _ _ => rfl) kN (PX_B b12 (fun _ _ => rfl) b11 u2), PX_B kB (fun _ _ => rfl) kN v2⟩
        refine ⟨_, _, rfl, ?_, Or.inr ⟨?_, _, _, hM, fin (upd σ6.1 7 1, σ6.2) z6 ((rY_n w3 (by omega)).trans rfl) ((rY_n w3 (by omega)).trans rfl) ((rY_n w3 (by omega)).trans n44) ((rY_n w3 (by omega)).trans n50) ((rY_n w3 (by omega)).trans n51) ((rY_n w3 (by omega)).trans n55) (fun j hj => (rY_a w3 (by omega)).trans ?_) (fun k hk => ?_) ⟨p1, p2, w3.2.2.trans n49, Or.inr ⟨rfl, a2, y3.trans wnn.symm, y7, fun k hk => ?_, ?_⟩⟩, hMC _ _⟩⟩
        · show (σ6.1 1).toNatClampNeg = 0
          rw [z6]
          rfl
        · exact (rY_n w3 (by omega)).trans rfl
        · show gm_up σ3.2 4 fo j = _
          unfold gm_up
          rw [if_neg (by omega)]
          exact nA j hj
        · obtain ⟨P, u1, u2, u3⟩ := hPX k hk
          exact wI_E u2 u3
        · obtain ⟨P, u1, u2, u3⟩ := hPX k hk
          exact ⟨P, u1, u2⟩
        · refine ⟨osz, c0, c1', g0, g1', (rY_n w3 (by omega)).trans h53, b2, b3, fun i hi => ?_, b5', b6, b7', b8, b9, b10, (by show c1'.2.2.2.2.1 ≤ c''.2.2.2.2.1; omega), eB_tr b11 b12 kB⟩
          obtain ⟨ch, u1, u2, u3, u4⟩ := b4 i hi
          refine ⟨ch, u1, u2, u3, ?_⟩
          have : σ6.2 6 = σ3.2 6 := rY_a w3 (by omega)
          show σ6.2 6 i = _
          rw [this, n6]
          exact u4
      · exact absurd (FK_u y2 b8) y3
end Q3
