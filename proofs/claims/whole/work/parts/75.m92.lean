def RH (n0 : Nat) (h : ck_S) : Prop := h.2.2.1 0 = some n0 ∧ h.2.2.1 1 = some (n0 + 7) ∧ h.2.2.1 2 = some (n0 + 8) ∧ h.2.2.1 3 = some (n0 + 15) ∧ h.2.2.1 4 = some (n0 + 16) ∧ n0 + 17 ≤ h.2.2.2.2.1
def HC (n0 : Nat) (E : ck_E) (pg ig : Nat → Option Nat) : Prop := (∃ ρ, E (n0 + 7) = some (tC ρ)) ∧ E (n0 + 15) = some (.inl (4, 6, .inr (.inr (.inr (.inr pg))))) ∧ E (n0 + 16) = some (.inl (5, 8, .inr (.inr (.inr (.inr ig)))))
def RTx (len : Nat) (r : Nat → Int32) (T : Nat → Nat → Int32) (σ : gm_S) : Prop := len ≤ 500 ∧ r 6 = Int32.ofNat len ∧ σ.1 1 = Int32.ofNat len ∧ ∀ i, i < len → ∃ ch, 33 ≤ ch ∧ ch ≤ 126 ∧ T 1 i = Int32.ofNat ch ∧ σ.2 2 i = Int32.ofNat ch
def RPL (n0 np : Nat) (pg : Nat → Option Nat) (σ : gm_S) (nx : Nat) (E : ck_E) : Prop := ∃ osz c0 c1 g0 g1, σ.1 5 = Int32.ofNat osz ∧ osz ≤ 500 ∧ c0.1 6 = Int32.ofNat osz ∧ (∀ i, i < osz → ∃ ch, 33 ≤ ch ∧ ch ≤ 126 ∧ c0.2.1 1 i = Int32.ofNat ch ∧ σ.2 6 i = Int32.ofNat ch) ∧ AR (n0 + 1) c0 g0 ∧ n0 + 17 ≤ c0.2.2.2.2.1 ∧ sp_Rd_readText c0 = some (Int32.ofNat np, c1) ∧ FK c1 0 0 ∧ AR (n0 + 1) c1 g1 ∧ (∀ k, k < np → g1 k = pg k) ∧ c1.2.2.2.2.1 ≤ nx ∧ eB (n0 + 17) c1.2.2.2.2.1 c1.2.2.2.1 E
def RP (n0 np : Nat) (pg : Nat → Option Nat) (σ : gm_S) (h : ck_S) : Prop := h.1 5 = Int32.ofNat np ∧ np ≤ 6 ∧ σ.2 49 0 = 0 ∧ ((σ.1 7 = 0 ∧ np = 0 ∧ σ.1 5 = 0) ∨ (σ.1 7 = 1 ∧ 1 ≤ np ∧ σ.1 10 = Int32.ofNat np ∧ PT np σ ∧ (∀ k, k < np → ∃ P, pg k = some P ∧ zPX (n0 + 17) h.2.2.2.2.1 σ.2 h.2.2.2.1 k P) ∧ RPL n0 np pg σ h.2.2.2.2.1 h.2.2.2.1))
def iC (P : Nat) (st out tk : Int32) : gx_C := .inr (1, [.ref P, .int st, .int out, .int tk])
def RI (n0 np nI : Nat) (pg ig : Nat → Option Nat) (σ : gm_S) (h : ck_S) : Prop := σ.1 44 = Int32.ofNat nI ∧ h.1 6 = Int32.ofNat nI ∧ nI ≤ 8 ∧ (∀ i, i < nI → ∃ I k P, ig i = some I ∧ n0 + 17 ≤ I ∧ I < h.2.2.2.2.1 ∧ k < np ∧ pg k = some P ∧ σ.2 45 i = Int32.ofNat k ∧ h.2.2.2.1 I = some (iC P (σ.2 46 i) (σ.2 47 i) (σ.2 48 i)) ∧ sOK (wI σ.2 k) (σ.2 46 i)) ∧ (∀ i j, i < nI → j < nI → ig i = ig j → i = j)
def RS (rs : Nat → Int32) (Ts : Nat → Nat → Int32) (σ : gm_S) : Prop := (σ.1 50 = 0 ∧ rs 8 = 0) ∨ (σ.1 50 = 1 ∧ rs 8 = 1 ∧ ∃ N L : Nat, N ≤ 300 ∧ L ≤ 300 ∧ σ.1 51 = Int32.ofNat N ∧ rs 6 = Int32.ofNat N ∧ σ.1 55 = Int32.ofNat L ∧ rs 7 = Int32.ofNat L ∧ ∀ i, i < L → σ.2 56 i = Ts 5 i)
def RX (n0 len np nI : Nat) (r rs : Nat → Int32) (T Ts : Nat → Nat → Int32) (g pg ig : Nat → Option Nat) (k9 k10 : Option Nat) (σ : gm_S) (h : ck_S) : Prop := RH n0 h ∧ RC n0 h.2.2.2.1 r T g ∧ SC n0 h.2.2.2.1 rs Ts k9 k10 ∧ HC n0 h.2.2.2.1 pg ig ∧ RTx len r T σ ∧ (h.1 7 = σ.1 8 ∧ h.1 8 = σ.1 9) ∧ RP n0 np pg σ h ∧ RI n0 np nI pg ig σ h ∧ RS rs Ts σ
def REL (n0 : Nat) (σ : gm_S) (h : ck_S) : Prop := ∃ len np nI r rs T Ts g pg ig k9 k10, RX n0 len np nI r rs T Ts g pg ig k9 k10 σ h
def LN (σ : gm_S) : Nat := (σ.1 1).toNatClampNeg
def OK (n0 cc cs cl : Nat) (σ : gm_S) (h : ck_S) (R : Option (Int32 × gm_S)) (C : Option (Int32 × ck_S)) : Prop := ∃ a σ' h', R = some (a, σ') ∧ C = some (a, h') ∧ REL n0 σ' h' ∧ h'.2.2.2.2.1 ≤ h.2.2.2.2.1 + cc ∧ h'.2.2.2.2.2 ≤ h.2.2.2.2.2 + cs ∧ h.2.2.2.2.1 ≤ h'.2.2.2.2.1 ∧ LN σ' ≤ LN σ + cl
section R1
variable {n0 len np nI : Nat} {r rs : Nat → Int32} {T Ts : Nat → Nat → Int32} {g pg ig : Nat → Option Nat} {k9 k10 : Option Nat} {σ : gm_S} {h : ck_S}
theorem i32_nat {v : Int32} (h : ¬ v < 0) : ∃ k, v = Int32.ofNat k ∧ k < 2147483648 := by
  have hz0 : (0 : Int) ≤ v.toInt := by
    have := Int32.not_lt.mp h
    simpa using Int32.le_iff_toInt_le.mp this
  have hb : v.toInt < 2147483648 := Int32.toInt_lt v
  refine ⟨v.toInt.toNat, ?_, by omega⟩
  apply Int32.toInt_inj.mp
  rw [Int32.toInt_ofNat_of_lt (by omega)]
  omega
theorem q_inN {k n : Nat} (hk : k < 2147483648) (hn : 1 ≤ n) (hn2 : n < 1000000) : (q_in (Int32.ofNat k) 0 (Int32.ofNat n - 1) = 0 ↔ n ≤ k) ∧ (k < n → q_in (Int32.ofNat k) 0 (Int32.ofNat n - 1) = 1) := by
  have h0 : ¬ (Int32.ofNat k < 0) := fun e => by have := (lt_N (b := 0) hk (by decide)).mp e; omega
  unfold q_in
  rw [if_neg h0, sb2 hn]
  by_cases hlt : n - 1 < k
  · rw [if_pos ((lt_N (by omega) hk).mpr hlt)]
    exact ⟨⟨fun _ => by omega, fun _ => rfl⟩, fun _ => by omega⟩
  · rw [if_neg (fun e => hlt ((lt_N (by omega) hk).mp e))]
    exact ⟨⟨fun e => absurd e (by decide), fun _ => by omega⟩, fun _ => rfl⟩
theorem q_inm {v n : Int32} (h : v < 0) : q_in v 0 n = 0 := if_pos h
theorem q_in0 {v : Int32} : q_in v 0 (0 - 1) = 0 := by
  unfold q_in
  by_cases h : v < 0
  · rw [if_pos h]
  · rw [if_neg h, if_pos]
    have h' := Int32.not_lt.mp h
    rw [Int32.le_iff_toInt_le] at h'
    rw [Int32.lt_iff_toInt_lt]
    have e1 : (0 : Int32).toInt = 0 := rfl
    have e2 : (0 - 1 : Int32).toInt = -1 := rfl
    omega
theorem prA {v : Int32} (hr : RH n0 h) (hc : HC n0 h.2.2.2.1 pg ig) (hp : RP n0 np pg σ h) : (∃ k P, v = Int32.ofNat k ∧ k < np ∧ sp_Md_isProgram v σ = some (1, σ) ∧ sp_H_programAt v h = some (some P, h) ∧ pg k = some P ∧ zPX (n0 + 17) h.2.2.2.2.1 σ.2 h.2.2.2.1 k P) ∨ (sp_Md_isProgram v σ = some (0, σ) ∧ sp_H_programAt v h = some (none, h)) := by
  obtain ⟨p1, p2, p3, p4⟩ := hp
  have hel : el h.2.2.2.1 (n0 + 15) 4 = some 6 := by
    unfold el
    rw [hc.2.1]
    rfl
  unfold sp_Md_isProgram sp_H_programAt
  rw [p1, hr.2.2.2.1]
  simp only
  rw [hel]
  simp only
  by_cases hv : v < 0
  · rw [if_pos hv, q_inm hv]
    refine Or.inr ⟨?_, rfl⟩
    by_cases h7 : σ.1 7 = 0
    · rw [if_pos h7]
    · rw [if_neg h7, if_pos rfl]
  · rw [if_neg hv]
    obtain ⟨k, rfl, hk⟩ := i32_nat hv
    by_cases hkn : np ≤ k
    · rw [if_pos ((le_N (by omega) hk).mpr hkn)]
      refine Or.inr ⟨?_, rfl⟩
      rcases p4 with ⟨a1, a2, _⟩ | ⟨a1, a2, a3, _⟩
      · rw [if_pos a1]
      · rw [a1, if_neg (by decide), a3, if_pos ((q_inN hk a2 (by omega)).1.mpr hkn)]
    · rcases p4 with ⟨a1, a2, _⟩ | ⟨a1, a2, a3, a4, a5, a6⟩
      · omega
      · obtain ⟨P, q1, q2⟩ := a5 k (by omega)
        have her : er h.2.2.2.1 (n0 + 15) 4 (Int32.ofNat k) = some (some P) := by
          unfold er
          rw [hc.2.1]
          simp only
          rw [if_pos trivial, if_pos (gi_of (by omega) (by decide)), cl_of hk, q1]
        rw [if_neg (fun e => hkn ((le_N (by omega) hk).mp e)), if_neg (show ¬ ((6 : Int32) ≤ Int32.ofNat k) from fun e => by have := (le_N (a := 6) (by decide) hk).mp e; omega), her, a1, if_neg (by decide), a3, (q_inN hk a2 (by omega)).2 (by omega), if_neg (by decide)]
        exact Or.inl ⟨k, P, rfl, by omega, rfl, rfl, q1, q2⟩
theorem inA {v : Int32} (hr : RH n0 h) (hc : HC n0 h.2.2.2.1 pg ig) (hp : RI n0 np nI pg ig σ h) : (∃ i I k P, v = Int32.ofNat i ∧ i < nI ∧ sp_Md_isInstance v σ = some (1, σ) ∧ sp_H_instanceAt v h = some (some I, h) ∧ ig i = some I ∧ n0 + 17 ≤ I ∧ I < h.2.2.2.2.1 ∧ k < np ∧ pg k = some P ∧ σ.2 45 i = Int32.ofNat k ∧ h.2.2.2.1 I = some (iC P (σ.2 46 i) (σ.2 47 i) (σ.2 48 i)) ∧ sOK (wI σ.2 k) (σ.2 46 i)) ∨ (sp_Md_isInstance v σ = some (0, σ) ∧ sp_H_instanceAt v h = some (none, h)) := by
  obtain ⟨p1, p2, p3, p4, p5⟩ := hp
  have hel : el h.2.2.2.1 (n0 + 16) 5 = some 8 := by
    unfold el
    rw [hc.2.2]
    rfl
  unfold sp_Md_isInstance sp_H_instanceAt
  rw [p1, p2, hr.2.2.2.2.1]
  simp only
  rw [hel]
  simp only
  by_cases hv : v < 0
  · rw [if_pos hv, q_inm hv]
    exact Or.inr ⟨rfl, rfl⟩
  · rw [if_neg hv]
    obtain ⟨k, rfl, hk⟩ := i32_nat hv
    by_cases hkn : nI ≤ k
    · rw [if_pos ((le_N (by omega) hk).mpr hkn)]
      refine Or.inr ⟨?_, rfl⟩
      by_cases h0 : nI = 0
      · rw [h0]
        exact congrArg (fun z => some (z, σ)) q_in0
      · rw [(q_inN hk (by omega) (by omega)).1.mpr hkn]
    · obtain ⟨I, kk, P, q1, q2⟩ := p4 k (by omega)
      have her : er h.2.2.2.1 (n0 + 16) 5 (Int32.ofNat k) = some (some I) := by
        unfold er
        rw [hc.2.2]
        simp only
        rw [if_pos trivial, if_pos (gi_of (by omega) (by decide)), cl_of hk, q1]
      rw [if_neg (fun e => hkn ((le_N (by omega) hk).mp e)), if_neg (show ¬ ((8 : Int32) ≤ Int32.ofNat k) from fun e => by have := (le_N (a := 8) (by decide) hk).mp e; omega), her, (q_inN hk (by omega) (by omega)).2 (by omega)]
      exact Or.inl ⟨k, I, kk, P, rfl, by omega, rfl, rfl, q1, q2⟩
theorem REL_0 {x : Int32} (hR : REL n0 σ h) : REL n0 (upd σ.1 0 x, σ.2) h := hR
theorem OK_0 {cl : Nat} {a : Int32} {R : Option (Int32 × gm_S)} {C : Option (Int32 × ck_S)} (h1 : R = some (a, (upd σ.1 0 0, σ.2))) (h2 : C = some (a, h)) (hR : REL n0 (upd σ.1 0 0, σ.2) h) : OK n0 0 0 cl σ h R C := ⟨a, _, h, h1, h2, hR, Nat.le_refl _, Nat.le_refl _, Nat.le_refl _, Nat.le_add_right _ _⟩
theorem fault_k {v : Int32} (hR : REL n0 σ h) : OK n0 0 0 0 σ h (sp_Md_fault v σ) (sp_H_fault v h) := by
  obtain ⟨len, np, nI, r, rs, T, Ts, g, pg, ig, k9, k10, hx⟩ := hR
  have e := hx.2.2.2.2.2.1
  have hR' : REL n0 (upd σ.1 0 0, σ.2) h := ⟨len, np, nI, r, rs, T, Ts, g, pg, ig, k9, k10, hx⟩
  unfold sp_Md_fault sp_H_fault
  rw [e.1, e.2]
  by_cases h0 : v = 0
  · rw [if_pos h0, if_pos h0]
    exact OK_0 rfl rfl hR'
  · rw [if_neg h0, if_neg h0]
    by_cases h1 : v = 1
    · rw [if_pos h1, if_pos h1]
      exact OK_0 rfl rfl hR'
    · rw [if_neg h1, if_neg h1]
      exact OK_0 rfl rfl hR'
theorem total_k {v : Int32} (hR : REL n0 σ h) : OK n0 0 0 0 σ h (sp_Md_total v σ) (sp_H_total v h) := by
  obtain ⟨len, np, nI, r, rs, T, Ts, g, pg, ig, k9, k10, hx⟩ := hR
  have hR' : REL n0 (upd σ.1 0 0, σ.2) h := ⟨len, np, nI, r, rs, T, Ts, g, pg, ig, k9, k10, hx⟩
  obtain ⟨x1, x2, x3, x4, x5, x6, x7, x8, x9⟩ := hx
  have e6 : egI h.2.2.2.1 n0 4 6 = some (r 6) := by
    unfold egI eg
    rw [x2.1]
    rfl
  unfold sp_Md_total sp_H_total
  rw [x1.1]
  simp only
  rw [e6, x5.2.1, x5.2.2.1, x8.1, x8.2.1, x7.1]
  by_cases h0 : v = 0
  · rw [if_pos h0, if_pos h0]
    rcases x7.2.2.2 with ⟨a1, a2, _⟩ | ⟨a1, a2, a3, _⟩
    · rw [if_pos a1, a2]
      exact OK_0 rfl rfl hR'
    · rw [a1, if_neg (by decide), a3]
      exact OK_0 rfl rfl hR'
  · rw [if_neg h0, if_neg h0]
    by_cases h1 : v = 1
    · rw [if_pos h1, if_pos h1]
      exact OK_0 rfl rfl hR'
    · rw [if_neg h1, if_neg h1]
      by_cases h2 : v = 2
      · rw [if_pos h2, if_pos h2]
        exact OK_0 rfl rfl hR'
      · rw [if_neg h2, if_neg h2]
        exact OK_0 rfl rfl hR'
theorem out_k {v : Int32} (hR : REL n0 σ h) : OK n0 0 0 0 σ h (sp_Md_out v σ) (sp_H_out v h) := by
  obtain ⟨len, np, nI, r, rs, T, Ts, g, pg, ig, k9, k10, hx⟩ := hR
  have hR' : REL n0 (upd σ.1 0 0, σ.2) h := ⟨len, np, nI, r, rs, T, Ts, g, pg, ig, k9, k10, hx⟩
  obtain ⟨x1, x2, x3, x4, x5, x6, x7, x8, x9⟩ := hx
  have x8' : RI n0 np nI pg ig (upd σ.1 0 0, σ.2) h := x8
  unfold sp_Md_out sp_H_out
  rcases inA (v := v) x1 x4 x8' with ⟨i, I, k, P, e, hi, e1, e2, e3, e4, e5, e6, e7, e8, e9, e10⟩ | ⟨e1, e2⟩
  · rw [e1, e2]
    simp only
    have hc : egI h.2.2.2.1 I 1 2 = some (σ.2 47 i) := by
      unfold egI eg
      rw [e9]
      rfl
    have := x8.2.2.1
    rw [hc, e, if_neg (by decide), if_pos (gi_of (by omega) (by decide)), cl_of (by omega)]
    exact OK_0 rfl rfl hR'
  · rw [e1, e2]
    exact OK_0 rfl rfl hR'
theorem stands_k {v : Int32} (hR : REL n0 σ h) : OK n0 0 0 0 σ h (sp_Md_stands v σ) (sp_H_stands v h) := by
  obtain ⟨len, np, nI, r, rs, T, Ts, g, pg, ig, k9, k10, hx⟩ := hR
  have hR' : REL n0 (upd σ.1 0 0, σ.2) h := ⟨len, np, nI, r, rs, T, Ts, g, pg, ig, k9, k10, hx⟩
  obtain ⟨x1, x2, x3, x4, x5, x6, x7, x8, x9⟩ := hx
  have x8' : RI n0 np nI pg ig (upd σ.1 0 0, σ.2) h := x8
  unfold sp_Md_stands sp_H_stands
  rcases inA (v := v) x1 x4 x8' with ⟨i, I, k, P, e, hi, e1, e2, e3, e4, e5, e6, e7, e8, e9, e10⟩ | ⟨e1, e2⟩
  · rw [e1, e2]
    simp only
    have hc : egI h.2.2.2.1 I 1 1 = some (σ.2 46 i) := by
      unfold egI eg
      rw [e9]
      rfl
    have := x8.2.2.1
    rw [hc, e, if_neg (by decide), if_pos (gi_of (by omega) (by decide)), cl_of (by omega)]
    exact OK_0 rfl rfl hR'
  · rw [e1, e2]
    exact OK_0 rfl rfl hR'
theorem ticks_k {v : Int32} (hR : REL n0 σ h) : OK n0 0 0 0 σ h (sp_Md_ticks v σ) (sp_H_ticks v h) := by
  obtain ⟨len, np, nI, r, rs, T, Ts, g, pg, ig, k9, k10, hx⟩ := hR
  have hR' : REL n0 (upd σ.1 0 0, σ.2) h := ⟨len, np, nI, r, rs, T, Ts, g, pg, ig, k9, k10, hx⟩
  obtain ⟨x1, x2, x3, x4, x5, x6, x7, x8, x9⟩ := hx
  have x8' : RI n0 np nI pg ig (upd σ.1 0 0, σ.2) h := x8
  unfold sp_Md_ticks sp_H_ticks
  rcases inA (v := v) x1 x4 x8' with ⟨i, I, k, P, e, hi, e1, e2, e3, e4, e5, e6, e7, e8, e9, e10⟩ | ⟨e1, e2⟩
  · rw [e1, e2]
    simp only
    have hc : egI h.2.2.2.1 I 1 3 = some (σ.2 48 i) := by
      unfold egI eg
      rw [e9]
      rfl
    have := x8.2.2.1
    rw [hc, e, if_neg (by decide), if_pos (gi_of (by omega) (by decide)), cl_of (by omega)]
    exact OK_0 rfl rfl hR'
  · rw [e1, e2]
    exact OK_0 rfl rfl hR'
end R1
