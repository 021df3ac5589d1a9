section Q2
variable {n0 len np nI lim hi sz : Nat} {r rs : Nat → Int32} {T Ts : Nat → Nat → Int32} {g pg ig : Nat → Option Nat} {k9 k10 : Option Nat} {σ σ' : gm_S} {h h' : ck_S} {E E' : ck_E}
theorem rd_dl0 (h : RC n0 E r T g) {q : Nat} (hq : iR n0 q) : edel E rd_K n0 (in_B E n0) q = none := by
  unfold iR at hq
  unfold edel
  by_cases e : q = n0
  · rw [if_pos e]
  · rw [if_neg e, (rd_eix h).1 (q - n0 - 1) (by omega) (by omega) (by omega)]
def vR (n0 : Nat) (h : ck_S) : ck_S := (in_r h.2.2.2.1 n0, in_t h.2.2.2.1 n0, in_k h.2.2.2.1 n0, edel h.2.2.2.1 rd_K n0 (in_B h.2.2.2.1 n0), h.2.2.2.2)
def pR (n0 : Nat) (h c' : ck_S) : ck_S := (h.1, h.2.1, h.2.2.1, eput rd_K n0 (in_B h.2.2.2.1 n0) c', c'.2.2.2.2)
theorem modC {n : Nat} {c' : ck_S} {g' : Nat → Option Nat} {k p : Int32} (h0 : h.2.2.1 0 = some n0) (hc : RC n0 h.2.2.2.1 r T g) (hr : sp_Rd_readText (vR n0 h) = some (Int32.ofNat n, c')) (ha : AR (n0 + 1) c' g') (hf : FK c' k p) : (k = 0 → sp_H_module h = sp_H_module_49 2601 (Int32.ofNat n) 0 (upd (upd h.1 7 k) 8 p, h.2.1, h.2.2.1, eput rd_K n0 (in_B h.2.2.2.1 n0) c', c'.2.2.2.2)) ∧ (¬ (k = 0) → sp_H_thrown h = some (Int32.ofNat n, (upd (upd h.1 7 k) 8 p, h.2.1, h.2.2.1, eput rd_K n0 (in_B h.2.2.2.1 n0) c', c'.2.2.2.2))) := by
  obtain ⟨s1, s2, s3, s4, s5⟩ := rd_in hc
  have heo : eo h.2.2.2.1 n0 4 = true := by unfold eo; rw [hc.1]; rfl
  obtain ⟨u1, u2⟩ := rd_put hc c'
  have hc1 := u2 ha.1 g' ha.2.2
  have hin : sp_in rd_K n0 sp_Rd_readText h = some (Int32.ofNat n, pR n0 h c') := inV_eq s5 hr
  obtain ⟨t1, t2, t3, t4, t5⟩ := rd_in hc1
  have heo1 : eo (eput rd_K n0 (in_B h.2.2.2.1 n0) c') n0 4 = true := by unfold eo; rw [hc1.1]; rfl
  have hK : ∀ (ρ : Nat → Int32), sp_in rd_K n0 sp_Rd_faultKind (ρ, h.2.1, h.2.2.1, eput rd_K n0 (in_B h.2.2.2.1 n0) c', c'.2.2.2.2) = some (k, (ρ, h.2.1, h.2.2.1, eput rd_K n0 (in_B h.2.2.2.1 n0) c', c'.2.2.2.2)) := by
    intro ρ
    have hk := (FK_cg (c := c') (d := vR n0 (ρ, h.2.1, h.2.2.1, eput rd_K n0 (in_B h.2.2.2.1 n0) c', c'.2.2.2.2)) (t4 2 (by decide) (by decide)) hf).1
    rw [inV_eq (h := (ρ, h.2.1, h.2.2.1, eput rd_K n0 (in_B h.2.2.2.1 n0) c', c'.2.2.2.2)) t5 hk]
    unfold vR
    simp only
    rw [put_id t5]
  have hPl : ∀ (ρ : Nat → Int32), sp_in rd_K n0 sp_Rd_faultPlace (ρ, h.2.1, h.2.2.1, eput rd_K n0 (in_B h.2.2.2.1 n0) c', c'.2.2.2.2) = some (p, (ρ, h.2.1, h.2.2.1, eput rd_K n0 (in_B h.2.2.2.1 n0) c', c'.2.2.2.2)) := by
    intro ρ
    have hk := (FK_cg (c := c') (d := vR n0 (ρ, h.2.1, h.2.2.1, eput rd_K n0 (in_B h.2.2.2.1 n0) c', c'.2.2.2.2)) (t4 2 (by decide) (by decide)) hf).2
    rw [inV_eq (h := (ρ, h.2.1, h.2.2.1, eput rd_K n0 (in_B h.2.2.2.1 n0) c', c'.2.2.2.2)) t5 hk]
    unfold vR
    simp only
    rw [put_id t5]
  have hK1 : sp_in rd_K n0 sp_Rd_faultKind (pR n0 h c') = some (k, pR n0 h c') := hK h.1
  have hP1 : sp_in rd_K n0 sp_Rd_faultPlace (upd (pR n0 h c').1 7 k, (pR n0 h c').2.1, (pR n0 h c').2.2.1, (pR n0 h c').2.2.2.1, (pR n0 h c').2.2.2.2.1, (pR n0 h c').2.2.2.2.2) = some (p, (upd h.1 7 k, h.2.1, h.2.2.1, eput rd_K n0 (in_B h.2.2.2.1 n0) c', c'.2.2.2.2)) := hPl (upd h.1 7 k)
  have e0 : (pR n0 h c').2.2.1 0 = some n0 := h0
  have e1 : eo (pR n0 h c').2.2.2.1 n0 4 = true := heo1
  have e7 : ((upd h.1 7 k, h.2.1, h.2.2.1, eput rd_K n0 (in_B h.2.2.2.1 n0) c', c'.2.2.2.2) : ck_S).1 7 = k := rfl
  constructor
  · intro hk
    unfold sp_H_module
    rw [h0]
    simp only
    rw [if_pos heo, hin]
    simp only
    rw [e0]
    simp only
    rw [if_pos e1, hK1]
    simp only
    rw [e0]
    simp only
    rw [if_pos e1, hP1]
    simp only
    rw [if_pos (e7.trans hk)]
  · intro hk
    unfold sp_H_thrown
    rw [h0]
    simp only
    rw [if_pos heo, hin]
    simp only
    rw [e0]
    simp only
    rw [if_pos e1, hK1]
    simp only
    rw [e0]
    simp only
    rw [if_pos e1, hP1]
    simp only
    rw [if_neg (fun e => hk (e7.symm.trans e))]
theorem FK_u {c : ck_S} {k p k' p' : Int32} (h : FK c k p) (h' : FK c k' p') : k = k' := by
  have := h.1
  rw [h'.1] at this
  cases this
  rfl
theorem AR_u {b : Nat} {c : ck_S} {g g' : Nat → Option Nat} (h : AR b c g) (h' : AR b c g') : g = g' := by
  have := h.2.2
  rw [h'.2.2] at this
  cases this
  rfl
end Q2
