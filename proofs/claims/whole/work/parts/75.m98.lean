section R7
variable {n0 len np nI lim hi : Nat} {r rs : Nat → Int32} {T Ts : Nat → Nat → Int32} {g pg ig : Nat → Option Nat} {k9 k10 : Option Nat} {σ σ' : gm_S} {h h' : ck_S} {E E' : ck_E}
theorem eB_S (h : SC n0 E rs Ts k9 k10) (hE : ∀ q, ¬ iS n0 q → q ≠ n0 + 9 → E' q = E q) : eB (n0 + 17) hi E E' := eB_of fun q _ => by
  by_cases hq : iS n0 q
  · refine Or.inr ?_
    unfold iS at hq
    rcases hq with e | ⟨e1, e2⟩
    · rw [e]
      exact eN_o h.1 (by decide) (by decide)
    · have := h.2.2 (q - n0 - 9) (by omega) (by omega)
      rw [show n0 + 9 + (q - n0 - 9) = q by omega] at this
      exact eN_a this (by omega)
  · by_cases h9 : q = n0 + 9
    · refine Or.inr ?_
      obtain ⟨ρ, hρ⟩ := h.2.1
      rw [h9]
      exact eN_o hρ (by decide) (by decide)
    · exact Or.inl (hE q hq h9)
def kpS (b : Int32) (σ : gm_S) : gm_S := (upd (upd (upd (upd σ.1 50 1) 51 0) 55 0) 51 1, gm_up (gm_up (gm_up σ.2 52 (upd (upd (σ.2 52) 0 (-2)) 1 b)) 53 (upd (σ.2 53) 0 (-1))) 54 (upd (σ.2 54) 0 0))
theorem keep0 {b : Int32} : sp_Md_keep (-2) b (-1) 0 ((upd (upd (upd σ.1 50 1) 51 0) 55 0), σ.2) = some (kpS b σ) := by
  have e51 : ((upd (upd (upd σ.1 50 1) 51 0) 55 0), σ.2).1 51 = 0 := rfl
  unfold sp_Md_keep
  rw [e51]
  rw [if_pos (by decide), if_pos (by decide), if_pos (by decide)]
  unfold kpS
  congr 2
  funext j
  unfold gm_up
  by_cases h54 : j = 54
  · rw [if_pos h54, if_pos h54]; rfl
  · rw [if_neg h54, if_neg h54]
    by_cases h53 : j = 53
    · rw [if_pos h53, if_pos h53]; rfl
    · rw [if_neg h53, if_neg h53]
      by_cases h52 : j = 52
      · rw [if_pos h52, if_pos h52]; rfl
      · rw [if_neg h52, if_neg h52, if_neg h52]
theorem seek_j {tw : Bool} {k P k2 P2 ni M : Nat} {what : Int32} (hx : RX n0 len np nI r rs T Ts g pg ig k9 k10 σ h) (hk : k < 6) (hP : zPX (n0 + 17) h.2.2.2.2.1 σ.2 h.2.2.2.1 k P) (hP2 : tw = true → k2 < 6 ∧ zPX (n0 + 17) h.2.2.2.2.1 σ.2 h.2.2.2.1 k2 P2 ∧ σ.2 12 k2 = Int32.ofNat ni) (hni : σ.2 12 k = Int32.ofNat ni) (hn4 : ni ≤ 4) (hM : M ≤ 300) (hM1 : 1 ≤ M) (hw : what = -1 ∨ ∃ w, w < 26 ∧ what = Int32.ofNat w) (htw : tw = true → what = -1) : ∃ a σ' h', sp_Md_seek (Int32.ofNat k) what (if tw = true then Int32.ofNat k2 else -1) (Int32.ofNat M) σ = some (a, σ') ∧ sp_in sk_K (n0 + 8) (sp_Sk_seek (some P) (if tw = true then some P2 else none) what (Int32.ofNat M)) h = some (a, h') ∧ REL n0 σ' h' ∧ h'.2.2.2.2 = h.2.2.2.2 ∧ σ'.1 1 = σ.1 1 := by
  obtain ⟨x1, x2, x3, x4, x5, x6, x7, x8, x9⟩ := hx
  obtain ⟨s1, s2, s3, s4, s5, s6, s7⟩ := sk_vw x3
  have hd : ∀ q, ¬ iS n0 q → edel h.2.2.2.1 sk_K (n0 + 8) (in_B h.2.2.2.1 (n0 + 8)) q = h.2.2.2.1 q := fun q hq => sk_del x3 hq
  have hnx := x1.2.2.2.2.2
  have hbd : eB (n0 + 17) h.2.2.2.2.1 h.2.2.2.1 (edel h.2.2.2.1 sk_K (n0 + 8) (in_B h.2.2.2.1 (n0 + 8))) := eB_S x3 (fun q hq _ => hd q hq)
  obtain ⟨ρ, hρ⟩ := x3.2.1
  have c52 : ∀ b, ∀ j, (11 ≤ j ∧ j ≤ 26) ∨ j = 49 → (kpS b σ).2 j = σ.2 j := fun b j hj => by
    show gm_up (gm_up (gm_up _ _ _) _ _) _ _ j = _
    unfold gm_up
    rw [if_neg (by omega), if_neg (by omega), if_neg (by omega)]
  have hS : ∀ b, (b = if tw = true then (-2 : Int32) else 0) → ∃ a σ' h', sp_Md_seek_37 2601 (Int32.ofNat k) (if tw = true then -1 else what) (if tw = true then Int32.ofNat k2 else -1) (Int32.ofNat M) (Int32.ofNat 0) (kpS b σ) = some (a, σ') ∧ sp_in sk_K (n0 + 8) (sp_Sk_seek (some P) (if tw = true then some P2 else none) what (Int32.ofNat M)) h = some (a, h') ∧ REL n0 σ' h' ∧ h'.2.2.2.2 = h.2.2.2.2 ∧ σ'.1 1 = σ.1 1 := by
    intro b hb
    have z0 : (0 : Int32).toNatClampNeg = 0 := by decide
    have hcell : egI (edel h.2.2.2.1 sk_K (n0 + 8) (in_B h.2.2.2.1 (n0 + 8))) P 3 1 = some (Int32.ofNat ni) := by
      obtain ⟨ni', no, li, lo, β, Γ, a, n, x, pa, fp, ⟨p1, p2, p3, p4, p5, p6, p7, _⟩, _⟩ := PX_B hbd (fun _ _ => rfl) (Nat.le_refl _) hP
      have e12 := p1.2.1
      have := p1.2.2.2.1
      rw [hni] at e12
      have e := (eq_N (by omega) (by omega)).mp e12
      rw [e]
      exact p6
    have hseek : ∀ c : ck_S, c.2.2.2.1 = edel h.2.2.2.1 sk_K (n0 + 8) (in_B h.2.2.2.1 (n0 + 8)) → sp_Sk_seek (some P) (if tw = true then some P2 else none) what (Int32.ofNat M) c = sp_Sk_seek_57 2601 (some P) (if tw = true then some P2 else none) what (Int32.ofNat M) (Int32.ofNat (2 ^ ni)) (Int32.ofNat 0) ((upd (upd (upd (upd c.1 11 what) 8 1) 7 0) 6 1), (gm_up (gm_up c.2.1 1 (upd (c.2.1 1) 0 (-2))) 2 (upd (c.2.1 2) 0 (-2))), (updR (updR c.2.2.1 9 (some P)) 10 (if tw = true then some P2 else none)), c.2.2.2.1, c.2.2.2.2.1, c.2.2.2.2.2) := by
      intro c hc
      unfold sp_Sk_seek
      simp only
      rw [hc, hcell]
      simp only
      rw [sh_ni hn4, z0]
      rfl
    have hE9 : edel h.2.2.2.1 sk_K (n0 + 8) (in_B h.2.2.2.1 (n0 + 8)) (n0 + 9) = some (tC ρ) := (hd _ (by unfold iS; omega)).trans hρ
    have hst := sk_out (lim := n0 + 17) (tw := tw) (k := k) (P := P) (k2 := k2) (P2 := P2) (t := n0 + 9) (ni := ni) (what := what) (vo := if tw = true then some P2 else none) (va := some P) (vx := what) hw hn4 hk hM 301 0 1 2601 2601 (kpS b σ) ((upd (upd (upd (upd (in_r h.2.2.2.1 (n0 + 8)) 11 what) 8 1) 7 0) 6 1), (gm_up (gm_up (in_t h.2.2.2.1 (n0 + 8)) 1 (upd (in_t h.2.2.2.1 (n0 + 8) 1) 0 (-2))) 2 (upd (in_t h.2.2.2.1 (n0 + 8) 2) 0 (-2))), (updR (updR (in_k h.2.2.2.1 (n0 + 8)) 9 (some P)) 10 (if tw = true then some P2 else none)), edel h.2.2.2.1 sk_K (n0 + 8) (in_B h.2.2.2.1 (n0 + 8)), h.2.2.2.2.1, h.2.2.2.2.2) (by omega) (by omega) (by omega)
      ⟨PX_R (PX_B hbd (c52 b) (Nat.le_refl _) hP), fun ht => ⟨PX_R (PX_B hbd (c52 b) (Nat.le_refl _) (hP2 ht).2.1), (by rw [ht]; rfl), (by rw [c52 b 12 (by omega)]; exact (hP2 ht).2.2), (hP2 ht).1⟩, fun hf => (by rw [hf]; rfl), s3, rfl, ⟨ρ, hE9⟩, rfl, (by rw [c52 b 12 (by omega)]; exact hni)⟩
      ⟨rfl, rfl, by omega, by omega, fun m hm => ?_, rfl, fun z z1 z2 => by omega⟩ (by omega) rfl rfl (by omega)
    · obtain ⟨a, σ', σs', r1, r2, r3, r4, r5⟩ := hst
      have hF := hseek (in_r h.2.2.2.1 (n0 + 8), in_t h.2.2.2.1 (n0 + 8), in_k h.2.2.2.1 (n0 + 8), edel h.2.2.2.1 sk_K (n0 + 8) (in_B h.2.2.2.1 (n0 + 8)), h.2.2.2.2) rfl
      rw [r2] at hF
      have n1' : σ'.1 1 = σ.1 1 := by
        rw [r4.1 1 (by omega) (by omega) (by omega) (by omega) (by omega) (by omega)]
        rfl
      refine ⟨a, σ', _, r1, inV_eq s7 hF, ?_, r5.2.2.2.2, n1'⟩
      obtain ⟨u1, u2⟩ := sk_put x3 σs'
      have hk0 : σs'.2.2.1 0 = some (n0 + 9) := by rw [r5.2.1]; exact s3
      have hSC := u2 hk0 r5.2.2.2.1
      have hEo : ∀ q, ¬ iS n0 q → q ≠ n0 + 9 → eput sk_K (n0 + 8) (in_B h.2.2.2.1 (n0 + 8)) σs' q = h.2.2.2.1 q := fun q hq h9 => by
        rw [u1 q hq, r5.2.2.1 q h9]
        exact hd q hq
      have n1 : ∀ j, (j = 1 ∨ j = 5 ∨ j = 7 ∨ j = 8 ∨ j = 9 ∨ j = 10 ∨ j = 19 ∨ j = 44) → σ'.1 j = σ.1 j := fun j hj => by
        rw [r4.1 j (by omega) (by omega) (by omega) (by omega) (by omega) (by omega)]
        show upd (upd (upd (upd σ.1 50 1) 51 0) 55 0) 51 1 j = _
        rw [upd_ne (by omega), upd_ne (by omega), upd_ne (by omega), upd_ne (by omega)]
      have n2 : ∀ j, j ≠ 38 → j ≠ 52 → j ≠ 53 → j ≠ 54 → j ≠ 56 → σ'.2 j = σ.2 j := fun j a1 a2 a3 a4 a5 => by
        rw [r4.2 j a1 a2 a3 a4 a5]
        show gm_up (gm_up (gm_up _ _ _) _ _) _ _ j = _
        unfold gm_up
        rw [if_neg a4, if_neg a3, if_neg a2]
      refine ⟨len, np, nI, r, σs'.1, T, σs'.2.1, g, pg, ig, _, _, ⟨x1.1, x1.2.1, x1.2.2.1, x1.2.2.2.1, x1.2.2.2.2.1, ?_⟩, RC_fr (fun q a b => hEo q (by unfold iS; omega) (by omega)) x2, hSC, ⟨?_, ?_, ?_⟩, ?_, ?_, ?_, ?_, ?_⟩
      · show n0 + 17 ≤ σs'.2.2.2.2.1
        rw [r5.2.2.2.2]
        exact hnx
      · obtain ⟨ρ, hρ⟩ := x4.1
        exact ⟨ρ, by rw [← hρ]; exact hEo _ (by unfold iS; omega) (by omega)⟩
      · rw [← x4.2.1]
        exact hEo _ (by unfold iS; omega) (by omega)
      · rw [← x4.2.2]
        exact hEo _ (by unfold iS; omega) (by omega)
      · unfold RTx at x5 ⊢
        rw [n1 1 (by omega), n2 2 (by decide) (by decide) (by decide) (by decide) (by decide)]
        exact x5
      · rw [n1 8 (by omega), n1 9 (by omega)]
        exact x6
      · refine RP_fr (σ := σ) (h := h) (fun j hj => n1 j (by omega)) (fun j hj => n2 j (by omega) (by omega) (by omega) (by omega) (by omega)) rfl (eB_S x3 hEo) ?_ x7
        show h.2.2.2.2.1 ≤ σs'.2.2.2.2.1
        rw [r5.2.2.2.2]
        exact Nat.le_refl _
      · obtain ⟨q1, q2, q3, q4, q5⟩ := x8
        refine ⟨(n1 44 (by omega)).trans q1, q2, q3, fun j hj => ?_, q5⟩
        obtain ⟨I', k', P', v1, v2, v3, v4, v5, v6, v7, v8⟩ := q4 j hj
        rw [n2 45 (by decide) (by decide) (by decide) (by decide) (by decide), n2 46 (by decide) (by decide) (by decide) (by decide) (by decide), n2 47 (by decide) (by decide) (by decide) (by decide) (by decide), n2 48 (by decide) (by decide) (by decide) (by decide) (by decide)]
        refine ⟨I', k', P', v1, v2, ?_, v4, v5, v6, (hEo I' (by unfold iS; omega) (by omega)).trans v7, ?_⟩
        · show I' < σs'.2.2.2.2.1
          rw [r5.2.2.2.2]
          exact v3
        · have : wI σ'.2 k' = wI σ.2 k' := by
            unfold wI
            rw [n2 25 (by decide) (by decide) (by decide) (by decide) (by decide), n2 16 (by decide) (by decide) (by decide) (by decide) (by decide)]
          rw [this]
          exact v8
      · refine Or.inr ⟨?_, ?_, r3⟩
        · rw [r4.1 50 (by omega) (by omega) (by omega) (by omega) (by omega) (by omega)]
          rfl
        · rw [r5.1 8 (by omega) (by omega) (by omega) (by omega)]
          rfl
    · have : m = 0 := by omega
      subst this
      refine ⟨rfl, sOK_2, fun ht => ⟨?_, sOK_2⟩, fun hf => ⟨?_, rfl⟩⟩
      · rw [ht] at hb
        rw [hb]
        rfl
      · rw [hf] at hb
        rw [hb]
        rfl
  unfold sp_Md_seek
  cases tw with
  | true =>
    have hk2 := (hP2 rfl).1
    rw [if_neg (show ¬ ((if true = true then Int32.ofNat k2 else -1) = -1) from fun e => ofN_n1 (by omega : k2 < 2147483648) e), keep0]
    have := hS (-2) rfl
    rw [htw rfl] at this ⊢
    exact this
  | false =>
    rw [if_pos (show (if false = true then Int32.ofNat k2 else (-1 : Int32)) = -1 from rfl), keep0]
    exact hS 0 rfl
end R7
