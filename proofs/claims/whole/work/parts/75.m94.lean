section R3
variable {n0 len np nI lim hi : Nat} {r rs : Nat → Int32} {T Ts : Nat → Nat → Int32} {g pg ig : Nat → Option Nat} {k9 k10 : Option Nat} {σ σ' : gm_S} {h h' : ck_S} {E E' : ck_E}
theorem eN_o {q ci : Nat} {fs : List Value} (h : E q = some (.inr (ci, fs))) (h2 : ci ≠ 2) (h3 : ci ≠ 3) : eN lim E q := by
  refine ⟨fun fs' e => ?_, fun fs' e => ?_, Or.inr fun n f e => ?_⟩
  · rw [h] at e
    injection e with e
    injection e with e
    injection e with e _
    exact h2 e
  · rw [h] at e
    injection e with e
    injection e with e
    injection e with e _
    exact h3 e
  · rw [h] at e
    cases e
theorem eN_r {q t n : Nat} {f : Nat → Option Nat} (h : E q = some (.inl (t, n, .inr (.inr (.inr (.inr f)))))) : eN lim E q := by
  refine ⟨fun fs' e => ?_, fun fs' e => ?_, Or.inr fun n f e => ?_⟩ <;> (rw [h] at e; cases e)
theorem eN_a {q : Nat} {z : Nat × vp_A} (h : E q = some (.inl z)) (hq : q < lim) : eN lim E q := ⟨fun fs' e => (by rw [h] at e; cases e), fun fs' e => (by rw [h] at e; cases e), Or.inl hq⟩
theorem eB_set {b : Nat} {z : gx_C} (hN : eN lim E b) : eB lim hi E (eset E b z) := eB_of fun q _ => by
  by_cases e : q = b
  · rw [e]; exact Or.inr hN
  · exact Or.inl (eset_ne e)
theorem eB_new {b : Nat} {z : gx_C} (hN : hi ≤ b) : eB lim hi E (eset E b z) := eB_of fun q hq => Or.inl (eset_ne (by omega))
theorem RC_fr (hc : ∀ q, n0 ≤ q → q ≤ n0 + 6 → E' q = E q) (h : RC n0 E r T g) : RC n0 E' r T g := ⟨by rw [hc n0 (by omega) (by omega)]; exact h.1, by rw [hc _ (by omega) (by omega)]; exact h.2.1, fun j a b => by rw [hc _ (by omega) (by omega)]; exact h.2.2 j a b⟩
theorem SC_fr (hc : ∀ q, n0 + 8 ≤ q → q ≤ n0 + 14 → E' q = E q) (h : SC n0 E rs Ts k9 k10) : SC n0 E' rs Ts k9 k10 := ⟨by rw [hc _ (by omega) (by omega)]; exact h.1, by rw [hc _ (by omega) (by omega)]; exact h.2.1, fun j a b => by rw [hc _ (by omega) (by omega)]; exact h.2.2 j a b⟩
theorem RP_fr (h1 : ∀ j, j = 5 ∨ j = 7 ∨ j = 10 ∨ j = 19 → σ'.1 j = σ.1 j) (h2 : ∀ j, (11 ≤ j ∧ j ≤ 26) ∨ j = 49 ∨ j = 6 → σ'.2 j = σ.2 j) (h5 : h'.1 5 = h.1 5) (hb : eB (n0 + 17) h.2.2.2.2.1 h.2.2.2.1 h'.2.2.2.1) (hn : h.2.2.2.2.1 ≤ h'.2.2.2.2.1) (hp : RP n0 np pg σ h) : RP n0 np pg σ' h' := by
  obtain ⟨p1, p2, p3, p4⟩ := hp
  refine ⟨h5.trans p1, p2, by rw [h2 49 (by omega)]; exact p3, ?_⟩
  rcases p4 with ⟨a1, a2, a3⟩ | ⟨a1, a2, a3, a4, a5, a6⟩
  · exact Or.inl ⟨by rw [h1 7 (by omega)]; exact a1, a2, by rw [h1 5 (by omega)]; exact a3⟩
  · refine Or.inr ⟨by rw [h1 7 (by omega)]; exact a1, a2, by rw [h1 10 (by omega)]; exact a3, ?_, fun k hk => ?_, ?_⟩
    · unfold PT at a4 ⊢
      rw [h1 19 (by omega), h2 49 (by omega)]
      exact a4
    · obtain ⟨P, q1, q2⟩ := a5 k hk
      exact ⟨P, q1, PX_B hb (fun j hj => h2 j (by omega)) hn q2⟩
    · obtain ⟨osz, c0, c1, g0, g1, b1, b2, b3, b4, b5, b6, b7, b8, b9, b10, b11, b12⟩ := a6
      exact ⟨osz, c0, c1, g0, g1, by rw [h1 5 (by omega)]; exact b1, b2, b3, by rw [h2 6 (by omega)]; exact b4, b5, b6, b7, b8, b9, b10, by omega, eB_tr b11 b12 hb⟩
theorem RI_up {i I k P : Nat} {s o t : Int32} (hI : RI n0 np nI pg ig σ h) (hi : i < nI) (hig : ig i = some I) (hk : pg k = some P) (hkn : k < np) (h45 : σ.2 45 i = Int32.ofNat k) (hE : h'.2.2.2.1 I = some (iC P s o t)) (hEo : ∀ q, n0 + 17 ≤ q → q < h.2.2.2.2.1 → q ≠ I → h'.2.2.2.1 q = h.2.2.2.1 q) (hn : h.2.2.2.2.1 ≤ h'.2.2.2.2.1) (h6 : h'.1 6 = h.1 6) (s44 : σ'.1 44 = σ.1 44) (s45 : σ'.2 45 = σ.2 45) (s46 : σ'.2 46 = upd (σ.2 46) i s) (s47 : σ'.2 47 = upd (σ.2 47) i o) (s48 : σ'.2 48 = upd (σ.2 48) i t) (hw : ∀ k, wI σ'.2 k = wI σ.2 k) (hs : sOK (wI σ.2 k) s) : RI n0 np nI pg ig σ' h' := by
  obtain ⟨p1, p2, p3, p4, p5⟩ := hI
  refine ⟨s44.trans p1, h6.trans p2, p3, fun j hj => ?_, p5⟩
  rw [s45, s46, s47, s48]
  by_cases e : j = i
  · subst e
    obtain ⟨I', k', P', q1, q2, q3, q4, q5, q6, q7, q8⟩ := p4 j hi
    have : I' = I := by rw [hig] at q1; cases q1; rfl
    subst this
    rw [upd_eq, upd_eq, upd_eq]
    exact ⟨I', k, P, q1, q2, by omega, hkn, hk, h45, hE, by rw [hw]; exact hs⟩
  · obtain ⟨I', k', P', q1, q2, q3, q4, q5, q6, q7, q8⟩ := p4 j hj
    have : I' ≠ I := fun e' => e (p5 j i hj hi (by rw [q1, hig, e']))
    rw [upd_ne e, upd_ne e, upd_ne e]
    exact ⟨I', k', P', q1, q2, by omega, q4, q5, q6, by rw [hEo I' q2 q3 this]; exact q7, by rw [hw]; exact q8⟩
theorem ii_eq {E : ck_E} {b P : Nat} {ρ : Nat → Int32} {τ : Nat → Nat → Int32} {κ : Nat → Option Nat} {y : Nat × Nat} : sp_Inst_init b (some P) (ρ, τ, κ, eset E b (.inr (1, gx_def gx_kd1)), y) = some (ρ, τ, κ, eset E b (iC P (-2) 0 0), y) := by
  have hd : gx_def gx_kd1 = [.null, .int 0, .int 0, .int 0] := rfl
  unfold sp_Inst_init
  rw [hd]
  simp only
  rw [ep_s (by simp)]
  simp only
  rw [ep_s (by simp)]
  simp only
  rw [ep_s (by simp)]
  simp only
  rw [ep_s (by simp)]
  rfl
theorem sOK_2 {w : Int32} : sOK w (-2) := Or.inl rfl
theorem make_k {v : Int32} (hR : REL n0 σ h) : OK n0 1 4 0 σ h (sp_Md_make v σ) (sp_H_make v h) := by
  obtain ⟨len, np, nI, r, rs, T, Ts, g, pg, ig, k9, k10, hx⟩ := hR
  have hR' : REL n0 (upd σ.1 0 0, σ.2) h := ⟨len, np, nI, r, rs, T, Ts, g, pg, ig, k9, k10, hx⟩
  have ok0 : ∀ (a : Int32) {R : Option (Int32 × gm_S)} {C : Option (Int32 × ck_S)}, R = some (a, (upd σ.1 0 0, σ.2)) → C = some (a, h) → OK n0 1 4 0 σ h R C := fun a R C e1 e2 => ⟨a, _, h, e1, e2, hR', by omega, by omega, Nat.le_refl _, Nat.le_refl _⟩
  obtain ⟨x1, x2, x3, x4, x5, x6, x7, x8, x9⟩ := hx
  have x7' : RP n0 np pg (upd σ.1 0 0, σ.2) h := x7
  unfold sp_Md_make sp_H_make
  rcases prA (v := v) x1 x4 x7' with ⟨k, P, e, hk, e1, e2, e3, e4⟩ | ⟨e1, e2⟩
  · rw [e1, e2]
    simp only
    have h44 : upd σ.1 0 0 44 = Int32.ofNat nI := x8.1
    have h6 : h.1 6 = Int32.ofNat nI := x8.2.1
    have h8 := x8.2.2.1
    rw [if_neg (by decide), h44, h6]
    by_cases hf : nI = 8
    · subst hf
      rw [if_pos (show Int32.ofNat 8 = 8 from rfl), if_neg (show ¬ (Int32.ofNat 8 < 8) by decide)]
      exact ok0 _ rfl rfl
    · have hnx := x1.2.2.2.2.2
      have hia : ∀ z, eset h.2.2.2.1 h.2.2.2.2.1 z (n0 + 16) = some (.inl (5, 8, .inr (.inr (.inr (.inr ig))))) := fun z => by rw [eset_ne (by omega)]; exact x4.2.2
      have hes : es (eset h.2.2.2.1 h.2.2.2.2.1 (iC P (-2) 0 0)) (n0 + 16) 5 1 (Int32.ofNat nI) (some h.2.2.2.2.1) = some (eset (eset h.2.2.2.1 h.2.2.2.2.1 (iC P (-2) 0 0)) (n0 + 16) (.inl (5, 8, .inr (.inr (.inr (.inr (va_up ig nI (some h.2.2.2.2.1)))))))) := by
        unfold es
        rw [hia]
        simp only
        rw [if_pos trivial, if_pos (gi_of (by omega) (by decide)), cl_of (by omega), if_pos (by unfold eo; rw [eset_eq]; rfl)]
      rw [if_neg (show ¬ (Int32.ofNat nI = 8) from fun e => hf ((eq_N (b := 8) (by omega) (by decide)).mp e)), if_pos (show Int32.ofNat nI < 8 from (lt_N (b := 8) (by omega) (by decide)).mpr (by omega)), ii_eq, x1.2.2.2.2.1]
      simp only
      rw [hes, if_pos (gi_of (by omega) (by decide)), cl_of (by omega), ofN_s, sb2 (by omega), Nat.add_sub_cancel, h6, ofN_s]
      refine ⟨_, _, _, rfl, rfl, ⟨len, np, nI + 1, r, rs, T, Ts, g, pg, va_up ig nI (some h.2.2.2.2.1), k9, k10, ?_⟩, by simp, by simp, by simp, Nat.le_refl _⟩
      have hEo : ∀ q, q ≠ n0 + 16 → q ≠ h.2.2.2.2.1 → eset (eset h.2.2.2.1 h.2.2.2.2.1 (iC P (-2) 0 0)) (n0 + 16) (.inl (5, 8, .inr (.inr (.inr (.inr (va_up ig nI (some h.2.2.2.2.1))))))) q = h.2.2.2.1 q := fun q a b => by rw [eset_ne a, eset_ne b]
      have hEn : eset (eset h.2.2.2.1 h.2.2.2.2.1 (iC P (-2) 0 0)) (n0 + 16) (.inl (5, 8, .inr (.inr (.inr (.inr (va_up ig nI (some h.2.2.2.2.1))))))) h.2.2.2.2.1 = some (iC P (-2) 0 0) := by rw [eset_ne (by omega), eset_eq]
      refine ⟨⟨x1.1, x1.2.1, x1.2.2.1, x1.2.2.2.1, x1.2.2.2.2.1, by show n0 + 17 ≤ h.2.2.2.2.1 + 1; omega⟩, RC_fr (fun q a b => hEo q (by omega) (by omega)) x2, SC_fr (fun q a b => hEo q (by omega) (by omega)) x3, ⟨?_, ?_, eset_eq⟩, x5, x6, ?_, ?_, x9⟩
      · obtain ⟨ρ, hρ⟩ := x4.1
        exact ⟨ρ, by rw [← hρ]; exact hEo _ (by omega) (by omega)⟩
      · rw [← x4.2.1]
        exact hEo _ (by omega) (by omega)
      · refine RP_fr (σ := σ) (h := h) (fun j hj => ?_) (fun j hj => ?_) rfl ?_ (by simp) x7
        · show upd (upd σ.1 0 0) 44 _ j = _
          rw [upd_ne (by omega), upd_ne (by omega)]
        · show gm_up (gm_up (gm_up (gm_up _ _ _) _ _) _ _) _ _ j = _
          unfold gm_up
          rw [if_neg (by omega), if_neg (by omega), if_neg (by omega), if_neg (by omega)]
        · exact eB_tr (Nat.le_refl _) (eB_new (Nat.le_refl _)) (eB_set (eN_r (hia _)))
      · obtain ⟨p1, p2, p3, p4, p5⟩ := x8
        refine ⟨rfl, rfl, by omega, fun j hj => ?_, fun i j hi hj e => ?_⟩
        · show ∃ I k P, _
          have s45 : ∀ j, gm_up (gm_up (gm_up (gm_up σ.2 45 (upd (σ.2 45) nI v)) 46 (upd (σ.2 46) nI (-2))) 47 (upd (σ.2 47) nI 0)) 48 (upd (σ.2 48) nI 0) 45 j = upd (σ.2 45) nI v j := fun _ => rfl
          by_cases ej : j = nI
          · subst ej
            refine ⟨h.2.2.2.2.1, k, P, vu_eq, by omega, by show h.2.2.2.2.1 < h.2.2.2.2.1 + 1; omega, hk, e3, ?_, ?_, ?_⟩
            · show upd (σ.2 45) j v j = _
              rw [upd_eq]
              exact e
            · show eset (eset h.2.2.2.1 _ _) _ _ _ = some (iC P (upd (σ.2 46) j (-2) j) (upd (σ.2 47) j 0 j) (upd (σ.2 48) j 0 j))
              rw [hEn, upd_eq, upd_eq, upd_eq]
            · show sOK _ (upd (σ.2 46) j (-2) j)
              rw [upd_eq]
              exact sOK_2
          · obtain ⟨I', k', P', q1, q2, q3, q4, q5, q6, q7, q8⟩ := p4 j (by omega)
            refine ⟨I', k', P', by rw [vu_ne ej]; exact q1, q2, by show I' < h.2.2.2.2.1 + 1; omega, q4, q5, ?_, ?_, ?_⟩
            · show upd (σ.2 45) nI v j = _
              rw [upd_ne ej]
              exact q6
            · show eset (eset h.2.2.2.1 _ _) _ _ _ = some (iC P' (upd (σ.2 46) nI (-2) j) (upd (σ.2 47) nI 0 j) (upd (σ.2 48) nI 0 j))
              rw [hEo I' (by omega) (by omega), upd_ne ej, upd_ne ej, upd_ne ej]
              exact q7
            · show sOK _ (upd (σ.2 46) nI (-2) j)
              rw [upd_ne ej]
              exact q8
        · by_cases ei : i = nI
          · by_cases ej : j = nI
            · omega
            · exfalso
              obtain ⟨I', k', P', q1, q2, q3, _⟩ := p4 j (by omega)
              rw [ei, vu_eq, vu_ne ej, q1] at e
              cases e
              omega
          · by_cases ej : j = nI
            · exfalso
              obtain ⟨I', k', P', q1, q2, q3, _⟩ := p4 i (by omega)
              rw [ej, vu_eq, vu_ne ei, q1] at e
              cases e
              omega
            · rw [vu_ne ei, vu_ne ej] at e
              exact p5 i j (by omega) (by omega) e
  · rw [e1, e2]
    exact ok0 _ rfl rfl
end R3
