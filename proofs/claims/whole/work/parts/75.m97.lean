theorem sh_eq {y : BitVec 64} {s j : Nat} (hs : s ≤ 56) (hj : j < 32) : ((BitVec.signExtend 32 (y >>> s)).getLsbD j && (255#32).getLsbD j) = ((BitVec.signExtend 32 (y.sshiftRight s)).getLsbD j && (255#32).getLsbD j) := by
  by_cases h8 : j < 8
  · congr 1
    rw [BitVec.getLsbD_signExtend, BitVec.getLsbD_signExtend]
    congr 1
    rw [if_pos (by omega), if_pos (by omega), BitVec.getLsbD_ushiftRight, BitVec.getLsbD_sshiftRight]
    have h64 : ¬ (64 ≤ j) := by omega
    have hsj : s + j < 64 := by omega
    simp [h64, hsj]
  · have h1 : (255#32).getLsbD j = false := by
      have h1 : ∀ q : Fin 32, 8 ≤ q.1 → (255#32).getLsbD q.1 = false := by decide
      exact h1 ⟨j, hj⟩ (show 8 ≤ j by omega)
    rw [h1, Bool.and_false, Bool.and_false]
theorem byte_eq {x : Int64} {i : Nat} (hi : i < 8) : q_H_byteOf x (Int32.ofNat i) = Int64.toInt32 ((x >>> (Int32.toInt64 (8 * Int32.ofNat i) &&& 63)) &&& 255) := by
  unfold q_H_byteOf q_lush
  apply Int32.toBitVec_inj.mp
  apply BitVec.eq_of_getLsbD_eq
  intro j hj
  have : i = 0 ∨ i = 1 ∨ i = 2 ∨ i = 3 ∨ i = 4 ∨ i = 5 ∨ i = 6 ∨ i = 7 := by omega
  rcases this with rfl | rfl | rfl | rfl | rfl | rfl | rfl | rfl
  · simp
  · simpa using sh_eq (s := 8) (by decide) hj
  · simpa using sh_eq (s := 16) (by decide) hj
  · simpa using sh_eq (s := 24) (by decide) hj
  · simpa using sh_eq (s := 32) (by decide) hj
  · simpa using sh_eq (s := 40) (by decide) hj
  · simpa using sh_eq (s := 48) (by decide) hj
  · simpa using sh_eq (s := 56) (by decide) hj
theorem byte_r {x : Int64} {i : Nat} : ∃ b, b < 256 ∧ q_H_byteOf x (Int32.ofNat i) = Int32.ofNat b := by
  unfold q_H_byteOf
  generalize Int64.toInt32 (q_lush x (8 * Int32.ofNat i)) = y
  have hn : ¬ ((y &&& 255) < 0) := fun e => by
    have := neg_bt.mp e
    rw [bt_and] at this
    have h2 : bt 255 31 = false := by decide
    rw [h2, Bool.and_false] at this
    cases this
  obtain ⟨k, k1, k2⟩ := i32_nat hn
  refine ⟨k, ?_, k1⟩
  rcases Nat.lt_or_ge k 256 with e | e
  · exact e
  · exfalso
    have hle : (y &&& 255).toInt ≤ 255 := by
      have e1 : (y &&& 255).toBitVec = y.toBitVec &&& 255#32 := rfl
      have e2 : (y.toBitVec &&& 255#32).toNat ≤ 255 := by
        rw [BitVec.toNat_and]
        exact Nat.and_le_right
      show (y &&& 255).toBitVec.toInt ≤ 255
      rw [e1, BitVec.toInt_eq_toNat_of_lt (by omega)]
      omega
    rw [k1, Int32.toInt_ofNat_of_lt k2] at hle
    omega
theorem room_eq {c : ck_S} {n len : Nat} (h6 : c.1 6 = Int32.ofNat len) (hl : len ≤ 500) (hn : n ≤ 8) : (len + n ≤ 500 → sp_Rd_hasRoomFor (Int32.ofNat n) c = some (1, c)) ∧ (¬ (len + n ≤ 500) → sp_Rd_hasRoomFor (Int32.ofNat n) c = some (0, c)) := by
  have e5 : (500 : Int32) - Int32.ofNat len = Int32.ofNat (500 - len) := ofN_sub (a := 500) hl
  unfold sp_Rd_hasRoomFor
  constructor
  · intro hl'
    rw [h6]
    rw [e5]
    rw [if_neg (fun e => by have := (lt_N (by omega) (by omega)).mp e; omega)]
  · intro hl'
    rw [h6, e5, if_pos ((lt_N (by omega) (by omega)).mpr (by omega))]
section R6
variable {n0 len np nI lim hi : Nat} {r rs : Nat → Int32} {T Ts : Nat → Nat → Int32} {g pg ig : Nat → Option Nat} {k9 k10 : Option Nat} {σ σ' : gm_S} {h h' : ck_S} {E E' : ck_E}
def RLn (n0 len : Nat) (σ : gm_S) (h : ck_S) : Prop := ∃ np nI r rs T Ts g pg ig k9 k10, RX n0 len np nI r rs T Ts g pg ig k9 k10 σ h
theorem ch_id {ch : Nat} (hc : ch ≤ 126) : q_i2c (Int32.ofNat ch) = Int32.ofNat ch ∧ vp_nar .char (Int32.ofNat ch) = Int32.ofNat ch := by
  have h1 : ∀ q : Fin 127, q_i2c (Int32.ofNat q.1) = Int32.ofNat q.1 ∧ vp_nar .char (Int32.ofNat q.1) = Int32.ofNat q.1 := by decide
  exact h1 ⟨ch, by omega⟩
theorem eB_R (h : RC n0 E r T g) (hE : ∀ q, ¬ iR n0 q → E' q = E q) : eB (n0 + 17) hi E E' := eB_of fun q _ => by
  by_cases hq : iR n0 q
  · refine Or.inr ?_
    unfold iR at hq
    rcases hq with e | ⟨e1, e2⟩
    · rw [e]
      exact eN_o h.1 (by decide) (by decide)
    · have := h.2.2 (q - n0 - 1) (by omega) (by omega)
      rw [show n0 + 1 + (q - n0 - 1) = q by omega] at this
      exact eN_a this (by omega)
  · exact Or.inl (hE q hq)
theorem type_s {ch : Nat} (hc : 33 ≤ ch) (hc2 : ch ≤ 126) (hl : len < 500) (hR : RLn n0 len σ h) : ∃ h', sp_inV rd_K n0 (sp_Rd_append (q_i2c (Int32.ofNat ch))) h = some h' ∧ RLn n0 (len + 1) (upd σ.1 1 (Int32.ofNat (len + 1)), gm_up σ.2 2 (upd (σ.2 2) len (Int32.ofNat ch))) h' ∧ h'.2.2.2.2 = h.2.2.2.2 := by
  obtain ⟨np, nI, r, rs, T, Ts, g, pg, ig, k9, k10, hx⟩ := hR
  obtain ⟨x1, x2, x3, x4, x5, x6, x7, x8, x9⟩ := hx
  obtain ⟨s1, s2, s3, s4, s5⟩ := rd_in x2
  have e6 : in_r h.2.2.2.1 n0 6 = Int32.ofNat len := by rw [s2 6 (by decide) (by decide)]; exact x5.2.1
  have hnx := x1.2.2.2.2.2
  have hF : sp_Rd_append (q_i2c (Int32.ofNat ch)) (in_r h.2.2.2.1 n0, in_t h.2.2.2.1 n0, in_k h.2.2.2.1 n0, edel h.2.2.2.1 rd_K n0 (in_B h.2.2.2.1 n0), h.2.2.2.2) = some (upd (in_r h.2.2.2.1 n0) 6 (Int32.ofNat (len + 1)), gm_up (in_t h.2.2.2.1 n0) 1 (upd (in_t h.2.2.2.1 n0 1) len (Int32.ofNat ch)), in_k h.2.2.2.1 n0, edel h.2.2.2.1 rd_K n0 (in_B h.2.2.2.1 n0), h.2.2.2.2) := by
    unfold sp_Rd_append
    simp only
    rw [e6, if_neg (show ¬ ((500 : Int32) ≤ Int32.ofNat len) from fun e => by have := (le_N (a := 500) (by decide) (by omega)).mp e; omega), if_pos (gi_of (by omega) (by decide)), cl_of (by omega), ofN_s, (ch_id hc2).1, (ch_id hc2).2]
  rw [inW_eq s5 hF]
  refine ⟨_, rfl, ?_, rfl⟩
  obtain ⟨u1, u2⟩ := rd_put x2 (upd (in_r h.2.2.2.1 n0) 6 (Int32.ofNat (len + 1)), gm_up (in_t h.2.2.2.1 n0) 1 (upd (in_t h.2.2.2.1 n0 1) len (Int32.ofNat ch)), in_k h.2.2.2.1 n0, edel h.2.2.2.1 rd_K n0 (in_B h.2.2.2.1 n0), h.2.2.2.2)
  have hd : ∀ q, ¬ iR n0 q → edel h.2.2.2.1 rd_K n0 (in_B h.2.2.2.1 n0) q = h.2.2.2.1 q := fun q hq => rd_del x2 hq
  have hEo : ∀ q, ¬ iR n0 q → eput rd_K n0 (in_B h.2.2.2.1 n0) (upd (in_r h.2.2.2.1 n0) 6 (Int32.ofNat (len + 1)), gm_up (in_t h.2.2.2.1 n0) 1 (upd (in_t h.2.2.2.1 n0 1) len (Int32.ofNat ch)), in_k h.2.2.2.1 n0, edel h.2.2.2.1 rd_K n0 (in_B h.2.2.2.1 n0), h.2.2.2.2) q = h.2.2.2.1 q := fun q hq => (u1 q hq).trans (hd q hq)
  have hRC := u2 s3 g ((hd (n0 + 1) (by unfold iR; omega)).trans x2.2.1)
  refine ⟨np, nI, _, rs, _, Ts, g, pg, ig, k9, k10, x1, hRC, SC_fr (fun q a b => hEo q (by unfold iR; omega)) x3, ⟨?_, ?_, ?_⟩, ⟨by omega, rfl, rfl, fun i hi => ?_⟩, x6, ?_, ?_, x9⟩
  · obtain ⟨ρ, hρ⟩ := x4.1
    exact ⟨ρ, by rw [← hρ]; exact hEo _ (by unfold iR; omega)⟩
  · rw [← x4.2.1]
    exact hEo _ (by unfold iR; omega)
  · rw [← x4.2.2]
    exact hEo _ (by unfold iR; omega)
  · show ∃ c, _ ∧ _ ∧ upd (in_t h.2.2.2.1 n0 1) len (Int32.ofNat ch) i = _ ∧ upd (σ.2 2) len (Int32.ofNat ch) i = _
    by_cases e : i = len
    · subst e
      exact ⟨ch, hc, hc2, upd_eq, upd_eq⟩
    · obtain ⟨c, q1, q2, q3, q4⟩ := x5.2.2.2 i (by omega)
      exact ⟨c, q1, q2, by rw [upd_ne e, s4 1 (by decide) (by decide)]; exact q3, by rw [upd_ne e]; exact q4⟩
  · refine RP_fr (σ := σ) (h := h) (fun j hj => ?_) (fun j hj => ?_) rfl (eB_R x2 hEo) (Nat.le_refl _) x7
    · show upd σ.1 1 _ j = _
      rw [upd_ne (by omega)]
    · show gm_up _ _ _ j = _
      unfold gm_up
      rw [if_neg (by omega)]
  · obtain ⟨q1, q2, q3, q4, q5⟩ := x8
    refine ⟨q1, q2, q3, fun j hj => ?_, q5⟩
    obtain ⟨I', k', P', v1, v2, v3, v4, v5, v6, v7, v8⟩ := q4 j hj
    exact ⟨I', k', P', v1, v2, v3, v4, v5, v6, (hEo I' (by unfold iR; omega)).trans v7, v8⟩
theorem type_l {v1 : Int64} {v3 : Int32} : ∀ (j m m' len : Nat) (σ : gm_S) (h : ck_S), j ≤ 8 → j < m → j < m' → len + j ≤ 500 → RLn n0 len σ h → (∀ i, i < j → ∃ ch, 33 ≤ ch ∧ ch ≤ 126 ∧ q_H_byteOf v1 (Int32.ofNat i) = Int32.ofNat ch) → ∃ σ' h', sp_Md_type_80 m v1 v3 (Int32.ofNat j - 1) σ = some (1, σ') ∧ sp_H_type_68 m' v1 v3 (Int32.ofNat j - 1) h = some (1, h') ∧ RLn n0 (len + j) σ' h' ∧ h'.2.2.2.2 = h.2.2.2.2 := by
  intro j
  induction j with
  | zero =>
    intro m m' len σ h hj hm hm' hl hR hb
    obtain ⟨m, rfl⟩ : ∃ i, m = i + 1 := ⟨m - 1, by omega⟩
    obtain ⟨m', rfl⟩ : ∃ i, m' = i + 1 := ⟨m' - 1, by omega⟩
    refine ⟨σ, h, ?_, ?_, hR, rfl⟩
    · rw [sp_Md_type_80, if_pos (show Int32.ofNat 0 - 1 < 0 by decide)]
    · rw [sp_H_type_68, if_pos (show Int32.ofNat 0 - 1 < 0 by decide)]
  | succ j ih =>
    intro m m' len σ h hj hm hm' hl hR hb
    obtain ⟨m, rfl⟩ : ∃ i, m = i + 1 := ⟨m - 1, by omega⟩
    obtain ⟨m', rfl⟩ : ∃ i, m' = i + 1 := ⟨m' - 1, by omega⟩
    obtain ⟨ch, c1, c2, c3⟩ := hb j (by omega)
    obtain ⟨h1, t1, t2, t3⟩ := type_s c1 c2 (by omega) hR
    have hn : ¬ (Int32.ofNat j < 0) := fun e => by have := (lt_N (b := 0) (by omega) (by decide)).mp e; omega
    have hj1 : Int32.ofNat j + (-1) = Int32.ofNat j - 1 := (Int32.sub_eq_add_neg _ _).symm
    obtain ⟨σ', h', r1, r2, r3, r4⟩ := ih m m' (len + 1) _ h1 (by omega) (by omega) (by omega) (by omega) t2 (fun i hi => hb i (by omega))
    have hlen : σ.1 1 = Int32.ofNat len ∧ h.2.2.1 0 = some n0 ∧ eo h.2.2.2.1 n0 4 = true := by
      obtain ⟨np, nI, r, rs, T, Ts, g, pg, ig, k9, k10, hx⟩ := hR
      exact ⟨hx.2.2.2.2.1.2.2.1, hx.1.1, by unfold eo; rw [hx.2.1.1]; rfl⟩
    refine ⟨σ', h', ?_, ?_, by rw [show len + (j + 1) = len + 1 + j by omega]; exact r3, r4.trans t3⟩
    · rw [sp_Md_type_80, sb2 (by omega), Nat.add_sub_cancel, if_neg hn, hlen.1, if_pos (gi_of (by omega) (by decide)), cl_of (by omega), ofN_s, ← byte_eq (by omega), c3, hj1]
      exact r1
    · rw [sp_H_type_68, sb2 (by omega), Nat.add_sub_cancel, if_neg hn, hlen.2.1]
      simp only
      rw [if_pos hlen.2.2, c3, t1]
      simp only
      rw [hj1]
      exact r2
theorem type_c {v1 : Int64} {n : Nat} (hn : 1 ≤ n) (hn8 : n ≤ 8) (hl : len + n ≤ 500) (hR : RLn n0 len σ h) : ∀ (d i m m' : Nat), i + d = n → d < m → d < m' → (∀ q, q < i → ∃ ch, 33 ≤ ch ∧ ch ≤ 126 ∧ q_H_byteOf v1 (Int32.ofNat q) = Int32.ofNat ch) → ∃ a σ' h', sp_Md_type_33 m v1 (Int32.ofNat n) (Int32.ofNat i) σ = some (a, σ') ∧ sp_H_type_27 m' v1 (Int32.ofNat n) (Int32.ofNat i) h = some (a, h') ∧ REL n0 σ' h' ∧ h'.2.2.2.2 = h.2.2.2.2 ∧ LN σ' ≤ LN σ + 8 := by
  intro d
  have hRel : REL n0 σ h := by
    obtain ⟨np, nI, r, rs, T, Ts, g, pg, ig, k9, k10, hx⟩ := hR
    exact ⟨len, np, nI, r, rs, T, Ts, g, pg, ig, k9, k10, hx⟩
  induction d with
  | zero =>
    intro i m m' hi hm hm' hb
    obtain ⟨m, rfl⟩ : ∃ i, m = i + 1 := ⟨m - 1, by omega⟩
    obtain ⟨m', rfl⟩ : ∃ i, m' = i + 1 := ⟨m' - 1, by omega⟩
    have : i = n := by omega
    subst this
    obtain ⟨σ', h', r1, r2, r3, r4⟩ := type_l (v1 := v1) (v3 := Int32.ofNat i) i 2601 2601 len σ h hn8 (by omega) (by omega) hl hR hb
    obtain ⟨np, nI, r, rs, T, Ts, g, pg, ig, k9, k10, hx⟩ := r3
    refine ⟨1, σ', h', ?_, ?_, ⟨len + i, np, nI, r, rs, T, Ts, g, pg, ig, k9, k10, hx⟩, r4, ?_⟩
    rotate_left 2
    · show (σ'.1 1).toNatClampNeg ≤ (σ.1 1).toNatClampNeg + 8
      obtain ⟨np0, nI0, r0, rs0, T0, Ts0, g0, pg0, ig0, k90, k100, hx0⟩ := hR
      rw [hx.2.2.2.2.1.2.2.1, hx0.2.2.2.2.1.2.2.1, cl_of (by omega), cl_of (by omega)]
      omega
    · rw [sp_Md_type_33, if_pos ((le_N (by omega) (by omega)).mpr (Nat.le_refl _))]
      exact r1
    · rw [sp_H_type_27, if_pos ((le_N (by omega) (by omega)).mpr (Nat.le_refl _))]
      exact r2
  | succ d ih =>
    intro i m m' hi hm hm' hb
    obtain ⟨m, rfl⟩ : ∃ i, m = i + 1 := ⟨m - 1, by omega⟩
    obtain ⟨m', rfl⟩ : ∃ i, m' = i + 1 := ⟨m' - 1, by omega⟩
    have hle : ¬ (Int32.ofNat n ≤ Int32.ofNat i) := fun e => by have := (le_N (by omega) (by omega)).mp e; omega
    rw [sp_Md_type_33, sp_H_type_27, if_neg hle, if_neg hle, ← byte_eq (by omega)]
    obtain ⟨b, b1, b2⟩ := byte_r (x := v1) (i := i)
    by_cases h33 : q_H_byteOf v1 (Int32.ofNat i) < 33
    · rw [if_pos h33, if_pos h33]
      exact ⟨0, σ, h, rfl, rfl, hRel, rfl, by omega⟩
    · rw [if_neg h33, if_neg h33]
      by_cases h126 : q_H_byteOf v1 (Int32.ofNat i) ≤ 126
      · rw [if_pos h126, if_pos h126, ofN_s]
        refine ih (i + 1) m m' (by omega) (by omega) (by omega) (fun q hq => ?_)
        by_cases e : q = i
        · subst e
          rw [b2] at h33 h126 ⊢
          refine ⟨b, ?_, (le_N (b := 126) (by omega) (by decide)).mp h126, rfl⟩
          rcases Nat.lt_or_ge b 33 with e | e
          · exact absurd ((lt_N (b := 33) (by omega) (by decide)).mpr e) h33
          · exact e
        · exact hb q (by omega)
      · rw [if_neg h126, if_neg h126]
        exact ⟨0, σ, h, rfl, rfl, hRel, rfl, by omega⟩
theorem type_k {v : Int64} {w : Int32} (hR : REL n0 σ h) : OK n0 0 0 8 σ h (sp_Md_type v w σ) (sp_H_type v w h) := by
  have hR' : REL n0 (upd σ.1 0 0, σ.2) h := hR
  obtain ⟨len, np, nI, r, rs, T, Ts, g, pg, ig, k9, k10, hx⟩ := hR
  have hx' : RLn n0 len (upd σ.1 0 0, σ.2) h := ⟨np, nI, r, rs, T, Ts, g, pg, ig, k9, k10, hx⟩
  obtain ⟨x1, x2, x3, x4, x5, x6, x7, x8, x9⟩ := hx
  obtain ⟨s1, s2, s3, s4, s5⟩ := rd_in x2
  have e6 : in_r h.2.2.2.1 n0 6 = Int32.ofNat len := by rw [s2 6 (by decide) (by decide)]; exact x5.2.1
  have heo : eo h.2.2.2.1 n0 4 = true := by unfold eo; rw [x2.1]; rfl
  have hlen := x5.1
  have h1 : σ.1 1 = Int32.ofNat len := x5.2.2.1
  unfold sp_Md_type sp_H_type
  by_cases w1 : w < 1
  · rw [if_pos w1, if_pos w1]
    exact OK_0 rfl rfl hR'
  · rw [if_neg w1, if_neg w1]
    by_cases w8 : 8 < w
    · rw [if_pos w8, if_pos w8]
      exact OK_0 rfl rfl hR'
    · rw [if_neg w8, if_neg w8, x1.1]
      simp only
      rw [if_pos heo]
      have hw0 : ¬ (w < 0) := fun e => w1 (by
        rw [Int32.lt_iff_toInt_lt] at e ⊢
        have : (0 : Int32).toInt = 0 := rfl
        have : (1 : Int32).toInt = 1 := rfl
        omega)
      obtain ⟨n, rfl, hn⟩ := i32_nat hw0
      have n1 : 1 ≤ n := by
        rcases Nat.lt_or_ge n 1 with e | e
        · exact absurd ((lt_N (b := 1) hn (by decide)).mpr e) w1
        · exact e
      have n8 : n ≤ 8 := by
        rcases Nat.lt_or_ge 8 n with e | e
        · exact absurd ((lt_N (a := 8) (by decide) hn).mpr e) w8
        · exact e
      rw [h1, ofN_add]
      have e5 : (500 : Int32) - Int32.ofNat len = Int32.ofNat (500 - len) := ofN_sub (a := 500) hlen
      by_cases hl : len + n ≤ 500
      · have hroom : sp_Rd_hasRoomFor (Int32.ofNat n) (in_r h.2.2.2.1 n0, in_t h.2.2.2.1 n0, in_k h.2.2.2.1 n0, edel h.2.2.2.1 rd_K n0 (in_B h.2.2.2.1 n0), h.2.2.2.2) = some (1, (in_r h.2.2.2.1 n0, in_t h.2.2.2.1 n0, in_k h.2.2.2.1 n0, edel h.2.2.2.1 rd_K n0 (in_B h.2.2.2.1 n0), h.2.2.2.2)) := (room_eq e6 hlen n8).1 hl
        rw [inV_eq s5 hroom]
        simp only
        rw [put_id s5, if_pos (show Int32.ofNat (len + n) ≤ 500 from (le_N (b := 500) (by omega) (by decide)).mpr hl), if_neg (by decide)]
        obtain ⟨a, σ', h', r1, r2, r3, r4, r5⟩ := type_c (v1 := v) n1 n8 hl hx' n 0 2601 2601 (by omega) (by omega) (by omega) (fun q hq => by omega)
        exact ⟨a, σ', h', r1, r2, r3, by rw [r4]; exact Nat.le_refl _, by rw [r4]; exact Nat.le_refl _, by rw [r4]; exact Nat.le_refl _, r5⟩
      · have hroom : sp_Rd_hasRoomFor (Int32.ofNat n) (in_r h.2.2.2.1 n0, in_t h.2.2.2.1 n0, in_k h.2.2.2.1 n0, edel h.2.2.2.1 rd_K n0 (in_B h.2.2.2.1 n0), h.2.2.2.2) = some (0, (in_r h.2.2.2.1 n0, in_t h.2.2.2.1 n0, in_k h.2.2.2.1 n0, edel h.2.2.2.1 rd_K n0 (in_B h.2.2.2.1 n0), h.2.2.2.2)) := (room_eq e6 hlen n8).2 hl
        rw [inV_eq s5 hroom]
        simp only
        rw [put_id s5, if_neg (show ¬ (Int32.ofNat (len + n) ≤ 500) from fun e => hl ((le_N (b := 500) (by omega) (by decide)).mp e)), if_pos trivial]
        exact OK_0 rfl rfl hR'
end R6
