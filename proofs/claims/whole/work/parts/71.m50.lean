section J3
variable {sz at_ dp lc tr pr pc sc pt : Nat} {σ : gm_S} {c : ck_S}
theorem QR_h {c' : ck_S} (h : QR sz at_ dp lc tr pr pc sc pt σ c) (h1 : c'.1 = c.1) (h2 : c'.2.1 = c.2.1) : QR sz at_ dp lc tr pr pc sc pt σ c' := by
  obtain ⟨r, al, hh⟩ := c'
  obtain ⟨r0, al0, hh0⟩ := c
  simp only at h1 h2
  subst h1 h2
  exact h
theorem QR_r {σ' : gm_S} (h : QR sz at_ dp lc tr pr pc sc pt σ c) (h1 : ∀ j, j ≠ 34 → j ≠ 35 → σ'.1 j = σ.1 j) (h2 : ∀ j, (j < 20 ∨ 26 < j) → σ'.2 j = σ.2 j) : QR sz at_ dp lc tr pr pc sc pt σ' c := by
  obtain ⟨q1, q2, q3, q4, q5, q6, q7, q8, q9, q10, q11, q12, q13, q14, q15⟩ := h
  have e30 := h2 30 (by omega)
  have e31 := h2 31 (by omega)
  refine ⟨q1, q2, by rw [h1 3 (by decide) (by decide)]; exact q3, by rw [h1 27 (by decide) (by decide)]; exact q4, by rw [h2 4 (by omega)]; exact q5, by rw [h1 28 (by decide) (by decide)]; exact q6, by rw [h1 29 (by decide) (by decide)]; exact q7, by rw [h1 32 (by decide) (by decide)]; exact q8, by rw [h2 33 (by omega)]; exact q9, by rw [h1 10 (by decide) (by decide), h2 17 (by omega), h2 18 (by omega)]; exact q10, by rw [h1 19 (by decide) (by decide)]; exact q11, by unfold fr2; rw [e30, e31]; exact q12, by unfold frk; rw [e30]; exact q13, by unfold frk; rw [e30]; exact q14, by rw [e31]; exact q15⟩
theorem QR_mk {kd x v : Int32} (h : QR sz at_ dp lc tr pr pc sc pt σ c) : QR sz at_ dp lc tr pr pc sc (pt + 1) (upd σ.1 19 (Int32.ofNat (pt + 1)), mkA σ.2 pt kd x v) c := by
  obtain ⟨q1, q2, q3, q4, q5, q6, q7, q8, q9, q10, q11, q12, q13, q14, q15⟩ := h
  have e : ∀ j, (j < 20 ∨ 26 < j) → mkA σ.2 pt kd x v j = σ.2 j := fun j hj => mk_o hj
  have e30 := e 30 (by omega)
  have e31 := e 31 (by omega)
  refine ⟨q1, q2, q3, q4, by simp only; rw [e 4 (by omega)]; exact q5, q6, q7, q8, by simp only; rw [e 33 (by omega)]; exact q9, by simp only; rw [e 17 (by omega), e 18 (by omega)]; exact q10, rfl, by unfold fr2; simp only; rw [e30, e31]; exact q12, by unfold frk; simp only; rw [e30]; exact q13, by unfold frk; simp only; rw [e30]; exact q14, by simp only; rw [e31]; exact q15⟩
theorem rU_mk {kd x v : Int32} : rU pr pc pt tr σ (upd σ.1 19 (Int32.ofNat (pt + 1)), mkA σ.2 pt kd x v) := by
  refine ⟨⟨fun j _ _ _ _ h19 _ _ => upd_ne h19, fun j _ _ _ _ _ h => mk_o h⟩, fun l _ => by simp only; rw [mk_o (by omega)], fun i _ => by simp only; rw [mk_o (by omega)], fun i _ => by simp only; rw [mk_o (by omega)], fun j q _ _ hq => by simp only; rw [mk_ne (by omega)], fun i _ => by simp only; rw [mk_o (by omega)]⟩
theorem rU_34 {x : Int32} : rU pr pc pt tr σ (upd σ.1 34 x, σ.2) := ⟨⟨fun _ _ _ _ _ _ h34 _ => upd_ne h34, fun _ _ _ _ _ _ _ => rfl⟩, fun _ _ => rfl, fun _ _ => rfl, fun _ _ => rfl, fun _ _ _ _ _ => rfl, fun _ _ => rfl⟩
theorem QR_34 {x : Int32} (h : QR sz at_ dp lc tr pr pc sc pt σ c) : QR sz at_ dp lc tr pr pc sc pt (upd σ.1 34 x, σ.2) c := QR_r h (fun _ h34 _ => upd_ne h34) (fun _ _ => rfl)
def UL (σ : gm_S) (c : ck_S) (pn a lo hi m m' : Nat) : Prop := lo ≤ pn ∧ pn < hi ∧ m ≤ a ∧ a < m' ∧ (a = m ∨ a + 1 = m' ∨ σ.2 20 pn ≠ 4) ∧ σ.2 24 pn = -1 ∧ b16 (σ.2 26 pn) ∧ ∃ kd v f, c.2.2.2.1 a = some (nC kd v f (σ.2 25 pn) (σ.2 26 pn) none)
def UG (kk hh : Nat) (sz at_ dp lc tr pr pc sc pt : Nat) (σ : gm_S) (c : ck_S) (p : Int32) (σ' : gm_S) (a : Nat) (c' : ck_S) : Prop := ∃ at' pc' sc' pt' pn, QR sz at' dp lc tr pr pc' sc' pt' σ' c' ∧ CV sz at_ dp lc tr pc sc c c' at' pc' sc' ∧ rU pr pc pt tr σ σ' ∧ pt' + kk ≤ pt + 5 * (at' - at_) ∧ pt ≤ pt' ∧ p = Int32.ofNat pn ∧ UL σ' c' pn a pt pt' c.2.2.2.2.1 c'.2.2.2.2.1 ∧ (noF c' → nR σ'.2 c'.2.2.2.1 (c'.2.1 3) hh (Gc c) tr ((Int32.ofNat pn, a), (pt, pt'), (c.2.2.2.2.1, c'.2.2.2.2.1), (pc, pc')))
def VX (k hh tq : Nat) (sz at_ dp lc tr pr pc sc pt : Nat) (σ : gm_S) (c : ck_S) (p : Int32) (σ' : gm_S) (a : Nat) (c' : ck_S) (at' pc' sc' pt' pn : Nat) : Prop := QR sz at' dp lc tr pr pc' sc' pt' σ' c' ∧ CV sz at_ dp lc tr pc sc c c' at' pc' sc' ∧ rU pr pc pt tr σ σ' ∧ pt' ≤ pt + 5 * (at' - at_) + k ∧ pt ≤ pt' ∧ p = Int32.ofNat pn ∧ UL σ' c' pn a pt pt' c.2.2.2.2.1 c'.2.2.2.2.1 ∧ (noF c' → nR σ'.2 c'.2.2.2.1 (c'.2.1 3) hh (Gc c) tq ((Int32.ofNat pn, a), (pt, pt'), (c.2.2.2.2.1, c'.2.2.2.2.1), (pc, pc')))
def VG (k hh : Nat) (sz at_ dp lc tr pr pc sc pt : Nat) (σ : gm_S) (c : ck_S) (p : Int32) (σ' : gm_S) (a : Nat) (c' : ck_S) : Prop := ∃ at' pc' sc' pt' pn, VX k hh tr sz at_ dp lc tr pr pc sc pt σ c p σ' a c' at' pc' sc' pt' pn
theorem leaf_j {kd x v vl : Int32} {hh tq : Nat} (hh1 : 1 ≤ hh) (h : QR sz at_ dp lc tr pr pc sc pt σ c) (hpt : pt < 2600) (hkd : kd ≠ 1) (h26 : b16 (on0 kd v)) (hca : cA kd vl [] = on0 kd v) (htr : tq ≤ 14) (hno : on0 kd v = if kd = 7 then (1 : Int32) <<< (v &&& 31) else if kd = 1 then 2 else 1) (hpc : noF c → kc (mkA σ.2 pt kd x v) (c.2.1 3) (Gc c) tq pt pc pc vl []) :
    sp_Md_makePart kd x v σ = some (Int32.ofNat pt, (upd σ.1 19 (Int32.ofNat (pt + 1)), mkA σ.2 pt kd x v)) ∧ VX 1 hh tq sz at_ dp lc tr pr pc sc pt σ c (Int32.ofNat pt) (upd σ.1 19 (Int32.ofNat (pt + 1)), mkA σ.2 pt kd x v) c.2.2.2.2.1 (cM c (nC kd vl none 0 (cA kd vl []) none)) at_ pc sc (pt + 1) pt := by
  have h19 : σ.1 19 = Int32.ofNat pt := h.2.2.2.2.2.2.2.2.2.2.1
  refine ⟨mk_eq h19 hpt, QR_h (QR_mk h) rfl rfl, CV_M h.1, rU_mk, by omega, by omega, rfl, ⟨Nat.le_refl _, Nat.lt_succ_self _, Nat.le_refl _, Nat.lt_succ_self _, Or.inl rfl, ?_, ?_, kd, vl, none, ?_⟩, fun hn => ?_⟩
  · show mkA σ.2 pt kd x v 24 pt = -1
    rw [mk_24, upd_eq]
  · show b16 (mkA σ.2 pt kd x v 26 pt)
    rw [mk_26, upd_eq]
    exact h26
  · show eset _ _ _ _ = some (nC kd vl none (mkA σ.2 pt kd x v 25 pt) (mkA σ.2 pt kd x v 26 pt) none)
    rw [eset_eq, mk_25, upd_eq, mk_26, upd_eq, hca]
  · have hp30 : pc ≤ 30 := h.2.2.2.2.2.2.2.2.2.1.2.2.2.1 hn.2.2
    have hk := hpc hn
    have := nR_leaf (T := mkA σ.2 pt kd x v) (E := (cM c (nC kd vl none 0 (cA kd vl []) none)).2.2.2.1) (β := c.2.1 3) (n := hh - 1) (t := tq) (Γ := Gc c) (pn := pt) (a := c.2.2.2.2.1) (u := pc) (v := pc) (kd := kd) (vl := vl) hpt htr (by rw [mk_20, upd_eq]) (by rw [mk_23, upd_eq]) (by
      show eset _ _ _ _ = some (nC kd vl none (mkA σ.2 pt kd x v 25 pt) (mkA σ.2 pt kd x v 26 pt) none)
      rw [eset_eq, mk_25, upd_eq, mk_26, upd_eq, hca]) (Nat.le_refl _) hp30 (fun i => by
      rw [mk_25, upd_eq, bt_0]
      have : ¬ (pc ≤ i ∧ i < pc) := by omega
      simp [this]) (fun _ => rfl) (by rw [mk_26, upd_eq, mk_22, upd_eq]; exact hno) hk
    rw [show hh - 1 + 1 = hh by omega] at this
    exact this
end J3
