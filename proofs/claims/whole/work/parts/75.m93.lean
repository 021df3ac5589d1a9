section R2
variable {n0 len np nI : Nat} {r rs : Nat → Int32} {T Ts : Nat → Nat → Int32} {g pg ig : Nat → Option Nat} {k9 k10 : Option Nat} {σ : gm_S} {h : ck_S}
theorem eo_I {E : ck_E} {b ci j : Nat} {v : Int32} (h : egI E b ci j = some v) : eo E b ci = true := by
  unfold egI eg at h
  unfold eo
  cases he : E b with
  | none => rw [he] at h; cases h
  | some z =>
    rw [he] at h
    cases z with
    | inl z => cases h
    | inr z =>
      obtain ⟨c, fs⟩ := z
      by_cases hc : c = ci
      · exact decide_eq_true hc
      · simp only [if_neg hc] at h
        cases h
theorem put_id {K : ck_K} {t : Nat} {B : Nat → Nat} {ρ : Nat → Int32} {τ : Nat → Nat → Int32} {κ : Nat → Option Nat} {E : ck_E} {y : Nat × Nat} (h : ck_In K t B ρ τ κ E) : eput K t B (ρ, τ, κ, edel E K t B, y) = E := by
  obtain ⟨_, h2, h3, _⟩ := h
  funext q
  unfold eput
  by_cases hq : q = t
  · rw [if_pos hq, hq]
    exact h2.symm
  · rw [if_neg hq]
    cases he : eix K B q with
    | none =>
      simp only
      unfold edel
      rw [if_neg hq, he]
    | some k =>
      simp only
      unfold eix at he
      have hp := List.find?_some he
      simp only [Bool.and_eq_true] at hp
      have h1 : K.2.2.1 k ≠ 0 := fun e => by
        rw [e] at hp
        cases hp.1
      rw [Nat.eq_of_beq_eq_true hp.2]
      exact (h3 k h1).symm
theorem inV_eq {α : Type} {K : ck_K} {t : Nat} {F : ck_S → Option (α × ck_S)} (hi : ck_In K t (in_B h.2.2.2.1 t) (in_r h.2.2.2.1 t) (in_t h.2.2.2.1 t) (in_k h.2.2.2.1 t) h.2.2.2.1) {y : α × ck_S} (hF : F (in_r h.2.2.2.1 t, in_t h.2.2.2.1 t, in_k h.2.2.2.1 t, edel h.2.2.2.1 K t (in_B h.2.2.2.1 t), h.2.2.2.2) = some y) : sp_in K t F h = some (y.1, (h.1, h.2.1, h.2.2.1, eput K t (in_B h.2.2.2.1 t) y.2, y.2.2.2.2.2)) := by
  unfold sp_in
  rw [if_pos hi, hF]
theorem inW_eq {K : ck_K} {t : Nat} {F : ck_S → Option ck_S} (hi : ck_In K t (in_B h.2.2.2.1 t) (in_r h.2.2.2.1 t) (in_t h.2.2.2.1 t) (in_k h.2.2.2.1 t) h.2.2.2.1) {y : ck_S} (hF : F (in_r h.2.2.2.1 t, in_t h.2.2.2.1 t, in_k h.2.2.2.1 t, edel h.2.2.2.1 K t (in_B h.2.2.2.1 t), h.2.2.2.2) = some y) : sp_inV K t F h = some (h.1, h.2.1, h.2.2.1, eput K t (in_B h.2.2.2.1 t) y, y.2.2.2.2) := by
  unfold sp_inV
  rw [if_pos hi, hF]
theorem run_k {v : Int32} (hR : REL n0 σ h) : OK n0 0 0 0 σ h (sp_Md_run v σ) (sp_H_run v h) := by
  obtain ⟨len, np, nI, r, rs, T, Ts, g, pg, ig, k9, k10, hx⟩ := hR
  have hR' : REL n0 (upd σ.1 0 0, σ.2) h := ⟨len, np, nI, r, rs, T, Ts, g, pg, ig, k9, k10, hx⟩
  obtain ⟨x1, x2, x3, x4, x5, x6, x7, x8, x9⟩ := hx
  obtain ⟨s1, s2, s3, s4, s5, s6, s7⟩ := sk_vw x3
  have heo : eo h.2.2.2.1 (n0 + 8) 5 = true := by
    unfold eo
    rw [x3.1]
    rfl
  have key : ∀ a, sp_Sk_told v (in_r h.2.2.2.1 (n0 + 8), in_t h.2.2.2.1 (n0 + 8), in_k h.2.2.2.1 (n0 + 8), edel h.2.2.2.1 sk_K (n0 + 8) (in_B h.2.2.2.1 (n0 + 8)), h.2.2.2.2) = some (a, (in_r h.2.2.2.1 (n0 + 8), in_t h.2.2.2.1 (n0 + 8), in_k h.2.2.2.1 (n0 + 8), edel h.2.2.2.1 sk_K (n0 + 8) (in_B h.2.2.2.1 (n0 + 8)), h.2.2.2.2)) → sp_H_run v h = some (a, h) := by
    intro a hf
    unfold sp_H_run
    rw [x1.2.2.1]
    simp only
    rw [if_pos heo, inV_eq s7 hf]
    simp only
    rw [put_id s7]
  unfold sp_Md_run
  rcases x9 with ⟨a1, a2⟩ | ⟨a1, a2, N, L, b1, b2, b3, b4, b5, b6, b7⟩
  · rw [if_pos a1]
    refine OK_0 rfl (key _ ?_) hR'
    unfold sp_Sk_told
    rw [if_pos (by show in_r _ _ 8 = 0; rw [s2 8 (by decide)]; exact a2)]
  · rw [a1, if_neg (by decide), b3, b5]
    have t8 : ¬ (in_r h.2.2.2.1 (n0 + 8) 8 = 0) := by rw [s2 8 (by decide), a2]; decide
    have t7 : in_r h.2.2.2.1 (n0 + 8) 7 = Int32.ofNat L := by rw [s2 7 (by decide)]; exact b6
    have t6 : in_r h.2.2.2.1 (n0 + 8) 6 = Int32.ofNat N := by rw [s2 6 (by decide)]; exact b4
    by_cases h1 : v = -1
    · rw [if_pos h1]
      refine OK_0 rfl (key _ ?_) hR'
      unfold sp_Sk_told
      rw [if_neg t8, if_pos h1]
      simp only
      rw [t7]
    · rw [if_neg h1]
      by_cases h2 : v = -2
      · rw [if_pos h2]
        refine OK_0 rfl (key _ ?_) hR'
        unfold sp_Sk_told
        rw [if_neg t8, if_neg h1, if_pos h2]
        simp only
        rw [t6]
      · rw [if_neg h2]
        by_cases hv : v < 0
        · rw [q_inm hv, if_pos rfl]
          refine OK_0 rfl (key _ ?_) hR'
          unfold sp_Sk_told
          rw [if_neg t8, if_neg h1, if_neg h2, if_pos hv]
        · obtain ⟨k, rfl, hk⟩ := i32_nat hv
          by_cases hkl : L ≤ k
          · have hq : q_in (Int32.ofNat k) 0 (Int32.ofNat L - 1) = 0 := by
              by_cases h0 : L = 0
              · rw [h0]
                exact q_in0
              · exact (q_inN hk (by omega) (by omega)).1.mpr hkl
            rw [if_pos hq]
            refine OK_0 rfl (key _ ?_) hR'
            unfold sp_Sk_told
            rw [if_neg t8, if_neg h1, if_neg h2, if_neg hv]
            simp only
            rw [t7, if_pos ((le_N (by omega) hk).mpr hkl)]
          · rw [(q_inN hk (by omega) (by omega)).2 (by omega), if_neg (by decide), if_pos (gi_of (by omega) (by decide)), cl_of hk]
            refine OK_0 rfl (key _ ?_) hR'
            unfold sp_Sk_told
            rw [if_neg t8, if_neg h1, if_neg h2, if_neg hv]
            simp only
            rw [t7, if_neg (fun e => hkl ((le_N (by omega) hk).mp e)), if_neg (show ¬ ((301 : Int32) ≤ Int32.ofNat k) from fun e => by have := (le_N (a := 301) (by decide) hk).mp e; omega), if_pos (gi_of (by omega) (by decide)), cl_of hk, s6 5 (by decide) (by decide), b7 k (by omega)]
theorem program_k {v w : Int32} (hR : REL n0 σ h) : OK n0 0 0 0 σ h (sp_Md_program v w σ) (sp_H_program v w h) := by
  obtain ⟨len, np, nI, r, rs, T, Ts, g, pg, ig, k9, k10, hx⟩ := hR
  have hR' : REL n0 (upd σ.1 0 0, σ.2) h := ⟨len, np, nI, r, rs, T, Ts, g, pg, ig, k9, k10, hx⟩
  obtain ⟨x1, x2, x3, x4, x5, x6, x7, x8, x9⟩ := hx
  have x7' : RP n0 np pg (upd σ.1 0 0, σ.2) h := x7
  have hn6 := x7.2.1
  unfold sp_Md_program sp_H_program
  rcases prA (v := v) x1 x4 x7' with ⟨k, P, e, hk, e1, e2, e3, e4⟩ | ⟨e1, e2⟩
  · rw [e1, e2]
    simp only
    obtain ⟨ni, no, li, lo, β, Γ, a, n, x, pa, fp, ⟨p1, p2, p3, p4, p5, p6, p7, p8, p9, p10, p11, p12, p13, p14, p15, p16, p17, p18, p19⟩, _⟩ := e4
    have p5' : egI h.2.2.2.1 P 3 0 = some (σ.2 11 k) := p5
    have p15' : σ.2 17 k = Int32.ofNat x.2.2.2.2 := p15
    have hlen : el h.2.2.2.1 pa 0 = some (Int32.ofNat x.2.2.2.2) := by
      unfold el
      rw [p17]
      rfl
    have h30 := (nR_1 p11).2
    have hnode : egI h.2.2.2.1 a 2 4 = some (σ.2 26 (σ.2 16 k).toNatClampNeg) ∧ gi (σ.2 16 k) 2600 = true := by
      have ex1 : x.1.1 = σ.2 16 k := by rw [p10]
      have ex2 : x.1.2 = a := by rw [p10]
      cases n with
      | zero => exact absurd p11 id
      | succ n =>
        have q1 := p11.1
        have q2 := p11.2.2.2.2.2.2.2.1
        rw [ex1, ex2] at q2
        rw [ex1] at q1
        exact ⟨q2, q1⟩
    rw [if_pos (eo_I p5), e, if_neg (by decide)]
    have hg7 : gi (Int32.ofNat k) 7 = true := gi_of (by omega : k < 7) (by decide)
    simp only [hg7, ↓reduceIte]
    rw [cl_of (by omega)]
    unfold sp_Prog_told
    rw [p5', p6, p7, p8, p16]
    simp only
    rw [hlen, hnode.1]
    by_cases w0 : w = 0
    · rw [if_pos w0, if_pos w0]
      exact OK_0 rfl rfl hR'
    · rw [if_neg w0, if_neg w0]
      by_cases w1 : w = 1
      · rw [if_pos w1, if_pos w1, show σ.2 12 k = Int32.ofNat ni from p1.2.1]
        exact OK_0 rfl rfl hR'
      · rw [if_neg w1, if_neg w1]
        by_cases w2 : w = 2
        · rw [if_pos w2, if_pos w2, show σ.2 14 k = Int32.ofNat no from p1.2.2.1]
          exact OK_0 rfl rfl hR'
        · rw [if_neg w2, if_neg w2]
          by_cases w3 : w = 3
          · rw [if_pos w3, if_pos w3, p15']
            exact OK_0 rfl rfl hR'
          · rw [if_neg w3, if_neg w3]
            by_cases w4 : w = 4
            · rw [if_pos w4, if_pos w4, if_pos hnode.2]
              exact OK_0 rfl rfl hR'
            · rw [if_neg w4, if_neg w4, if_pos (eo_I p5)]
              unfold sp_Prog_pausePlace
              rw [p16]
              simp only
              rw [hlen]
              simp only
              rw [p15']
              by_cases hw : w < 100
              · rw [if_pos hw]
                have hq : q_in w 100 (99 + Int32.ofNat x.2.2.2.2) = 0 := if_pos hw
                rw [if_pos hq]
                exact OK_0 rfl rfl hR'
              · rw [if_neg hw]
                have hw0 : ¬ (w < 0) := fun e => hw (by
                  rw [Int32.lt_iff_toInt_lt] at e ⊢
                  have : (0 : Int32).toInt = 0 := rfl
                  have : (100 : Int32).toInt = 100 := rfl
                  omega)
                obtain ⟨m, rfl, hm⟩ := i32_nat hw0
                have hm100 : 100 ≤ m := by
                  rcases Nat.lt_or_ge m 100 with e | e
                  · exact absurd ((lt_N (b := 100) hm (by decide)).mpr e) hw
                  · exact e
                have e99 : (99 : Int32) + Int32.ofNat x.2.2.2.2 = Int32.ofNat (99 + x.2.2.2.2) := ofN_add (a := 99)
                have e100 : Int32.ofNat m - 100 = Int32.ofNat (m - 100) := ofN_sub (b := 100) hm100
                have e30 : (30 : Int32) * Int32.ofNat k + Int32.ofNat m - 100 = Int32.ofNat (30 * k + (m - 100)) := by
                  rw [show (30 : Int32) * Int32.ofNat k = Int32.ofNat (30 * k) from ofN_mul (a := 30), ofN_add, show (100 : Int32) = Int32.ofNat 100 from rfl, ofN_sub (by omega)]
                  congr 1
                  omega
                rw [e99, e100, e30]
                by_cases hl : m - 100 < x.2.2.2.2
                · have hq : q_in (Int32.ofNat m) 100 (Int32.ofNat (99 + x.2.2.2.2)) = 1 := by
                    unfold q_in
                    rw [if_neg hw, if_neg (fun e => by have := (lt_N (by omega) hm).mp e; omega)]
                  have hea : ea h.2.2.2.1 pa (Int32.ofNat (m - 100)) = some (fp (m - 100)) := by
                    unfold ea
                    rw [p17]
                    simp only
                    rw [if_pos trivial, if_pos (gi_of hl (by omega)), cl_of (by omega)]
                  rw [hq, if_neg (by decide), if_pos (gi_of (by omega) (by decide)), cl_of (by omega), if_pos ((lt_N (by omega) (by omega)).mpr hl), hea, p18 _ hl]
                  exact OK_0 rfl rfl hR'
                · have hq : q_in (Int32.ofNat m) 100 (Int32.ofNat (99 + x.2.2.2.2)) = 0 := by
                    unfold q_in
                    rw [if_neg hw, if_pos ((lt_N (by omega) hm).mpr (by omega))]
                  rw [if_pos hq, if_neg (fun e => hl ((lt_N (by omega) (by omega)).mp e))]
                  exact OK_0 rfl rfl hR'
  · rw [e1, e2]
    exact OK_0 rfl rfl hR'
end R2
