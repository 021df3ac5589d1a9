theorem nR_G {T : mw_A} {E : ck_E} {β : Nat → Int32} : ∀ (n : Nat) (Γ Γ' : Nat → Bool) (t : Nat) (x : kd_R), (∀ l, l < 26 → Γ l = Γ' l) → nR T E β n Γ t x → nR T E β n Γ' t x := by
  intro n
  induction n with
  | zero => intro Γ Γ' t x _ h; exact h
  | succ n ih =>
    intro Γ Γ' t x hg h
    obtain ⟨h1, h2, h3, h4, h5, h6, h7, h8, h9, h10, h11, vl, c, kids, k1, k2, k3, k4, k5, k6, k7, k8, k9, k10⟩ := h
    have hlt : ∀ b, lt_ok T β x.1.1.toNatClampNeg vl Γ b → lt_ok T β x.1.1.toNatClampNeg vl Γ' b := by
      rintro b ⟨j, j1, j2, j3, j4, j5⟩
      exact ⟨j, j1, j2, j3, j4, by rw [← hg j j1]; exact j5⟩
    refine ⟨h1, h2, h3, h4, h5, h6, h7, h8, h9, h10, h11, vl, c, kids, k1, k2, k3, k4, fun y hy => ⟨(k5 y hy).1, (k5 y hy).2.1, (k5 y hy).2.2.1, (k5 y hy).2.2.2.1, (k5 y hy).2.2.2.2.1, ih _ _ _ _ (fun l hl => ?_) (k5 y hy).2.2.2.2.2⟩, k6, k7, k8, ?_, k10⟩
    · unfold gN
      by_cases h8' : T 20 x.1.1.toNatClampNeg = 8
      · rw [if_pos h8', if_pos h8']
        unfold zext
        by_cases hj : l = (T 21 x.1.1.toNatClampNeg).toNatClampNeg
        · rw [if_pos hj, if_pos hj]
        · rw [if_neg hj, if_neg hj, hg l hl]
      · rw [if_neg h8', if_neg h8', hg l hl]
    · rcases k9 with e | e | ⟨hd, hk0, hl⟩ | ⟨hd, hk0, hl⟩ | e | ⟨hd, hk0, hl⟩ | e | e | ⟨hd, hk0, hl⟩ | e | e
      · exact Or.inl e
      · exact Or.inr (Or.inl e)
      · exact Or.inr (Or.inr (Or.inl ⟨hd, hk0, hlt _ hl⟩))
      · exact Or.inr (Or.inr (Or.inr (Or.inl ⟨hd, hk0, hlt _ hl⟩)))
      · exact Or.inr (Or.inr (Or.inr (Or.inr (Or.inl e))))
      · exact Or.inr (Or.inr (Or.inr (Or.inr (Or.inr (Or.inl ⟨hd, hk0, hlt _ hl⟩)))))
      · exact Or.inr (Or.inr (Or.inr (Or.inr (Or.inr (Or.inr (Or.inl e))))))
      · exact Or.inr (Or.inr (Or.inr (Or.inr (Or.inr (Or.inr (Or.inr (Or.inl e)))))))
      · exact Or.inr (Or.inr (Or.inr (Or.inr (Or.inr (Or.inr (Or.inr (Or.inr (Or.inl ⟨hd, hk0, hlt _ hl⟩))))))))
      · exact Or.inr (Or.inr (Or.inr (Or.inr (Or.inr (Or.inr (Or.inr (Or.inr (Or.inr (Or.inl e)))))))))
      · exact Or.inr (Or.inr (Or.inr (Or.inr (Or.inr (Or.inr (Or.inr (Or.inr (Or.inr (Or.inr e)))))))))
def w1I (kd x r : Int32) (σ1 : gm_S) : Option (Int32 × gm_S) := (if r = 0 then some (0, σ1) else (match sp_Md_with kd x (σ1.1 34) (-1) σ1 with
  | none => none
  | some y5 => some (1, ((upd y5.2.1 34 y5.1), y5.2.2))))
section J9
variable {sz at_ dp lc tr pr pc sc pt : Nat} {σ : gm_S} {c : ck_S}
theorem initN {a a1 : Nat} {kd v : Int32} (ha : c.2.2.2.1 a = some nD) (h1 : NN c a1) (hne : a1 ≠ a) : ∃ c', sp_Node_init a kd v (some a1) c = some c' ∧ c'.2.1 = c.2.1 := by
  obtain ⟨k1, v1, f1, w1, o1, e⟩ := h1
  exact ⟨_, init1 ha e hne, rfl⟩
def KG (kk hh t1 : Nat) (Γ1 : Nat → Bool) (sz at_ dp lc tr pr pc sc pt : Nat) (σ : gm_S) (c : ck_S) (p : Int32) (σ' : gm_S) (a : Nat) (c' : ck_S) : Prop := ∃ at' pc' sc' pt' pn, QR sz at' dp lc tr pr pc' sc' pt' σ' c' ∧ CV sz at_ dp lc tr pc sc c c' at' pc' sc' ∧ rU pr pc pt tr σ σ' ∧ pt' + kk ≤ pt + 5 * (at' - at_) ∧ pt ≤ pt' ∧ p = Int32.ofNat pn ∧ UL σ' c' pn a pt pt' c.2.2.2.2.1 c'.2.2.2.2.1 ∧ (noF c' → nR σ'.2 c'.2.2.2.1 (c'.2.1 3) hh Γ1 t1 ((Int32.ofNat pn, a), (pt, pt'), (c.2.2.2.2.1, c'.2.2.2.2.1), (pc, pc')))
def FB (σ' : gm_S) (c' : ck_S) : Prop := c'.2.1 2 1 = σ'.1 27 ∧ ∃ w, w ≤ 500 ∧ σ'.1 27 = Int32.ofNat w
theorem FB_ne {σ' : gm_S} {c' : ck_S} (h : FB σ' c') : c'.2.1 2 1 ≠ 501 := by
  obtain ⟨h1, w, w1, w2⟩ := h
  rw [h1, w2]
  intro e
  have := (eq_N (b := 501) (by omega) (by decide)).mp e
  omega
theorem end_pre {kk hh t1 : Nat} {Γ1 : Nat → Bool} {kd x vl : Int32} {r : Int32} {σ1 : gm_S} {a1 : Nat} {c1 : ck_S} (hW : CW sz at_ dp lc tr pc sc c) (hkd : kd = 4 ∨ kd = 5 ∨ kd = 6 ∨ kd = 8) (hk1 : 1 ≤ kk) (hpt5 : pt ≤ 5 * at_ + 9) (htr : tr ≤ 14) (hcu : CU sz at_ dp lc tr pc sc (cM c nD) a1 c1) (hrW : rW σ σ1) (hout : (r = 1 ∧ KG kk hh t1 Γ1 sz at_ dp lc tr pr pc sc pt σ (cM c nD) (σ1.1 34) σ1 a1 c1) ∨ (r = 0 ∧ FB σ1 c1)) (hΓ : Γ1 = (if kd = 8 then zext (Gc c) x.toNatClampNeg else Gc c)) (ht1 : t1 = (if kd = 6 then tr + 1 else tr)) (k4 : r = 1 → noF c1 → kd = 4 → bt (σ1.2 26 (σ1.1 34).toNatClampNeg) 0 = false) (k5 : r = 1 → noF c1 → kd = 5 → ∃ j, j < 26 ∧ x = Int32.ofNat j ∧ vl = c1.2.1 3 j ∧ c1.2.1 3 j ≠ 0 ∧ Gc c j = true) (k8 : r = 1 → noF c1 → kd = 8 → ∃ j, j < 26 ∧ x = Int32.ofNat j ∧ vl = c1.2.1 3 j ∧ c1.2.1 3 j ≠ 0 ∧ Gc c j = false) :
    ∃ σ' c', w1I kd x r σ1 = some (r, σ') ∧ sp_Node_init c.2.2.2.2.1 kd vl (some a1) c1 = some c' ∧ rW σ σ' ∧ ((r = 1 ∧ UG (kk - 1) (hh + 1) sz at_ dp lc tr pr pc sc pt σ c (σ'.1 34) σ' c.2.2.2.2.1 c') ∨ (r = 0 ∧ FB σ' c')) := by
  unfold w1I
  obtain ⟨at2, pc2, sc2, x1, x2, x3, x4, x5, x6⟩ := hcu
  have e1 : (cM c nD).2.2.2.2.1 = c.2.2.2.2.1 + 1 := rfl
  have hcell : c1.2.2.2.1 c.2.2.2.2.1 = some nD := by
    rw [x1.2.2.2.2.2.1.2.1 _ (by rw [e1]; omega)]
    exact eset_eq
  rw [e1] at x4
  rcases hout with ⟨hr, at', pc', sc', pt', pn, y1, y2, y3, y4, y5, y6, y7, y8⟩ | ⟨hr, hfb⟩
  · subst hr
    rw [if_neg (by decide)]
    have hs : sz ≤ 500 := hW.2.1
    have hat' : at' ≤ sz := y1.1.2.2.2.1
    have hat := y2.2.1
    obtain ⟨u1, u2, u3, u4, ug, u5, u6, k1, v1, f1, u7⟩ := y7
    have hcl : (σ1.1 34).toNatClampNeg = pn := by rw [y6]; exact cl_of (by omega)
    have hin := init1 (kd := kd) (v := vl) hcell u7 (by omega)
    have hk1' : ¬ (kd = 1) := by rcases hkd with e | e | e | e <;> (rw [e]; decide)
    rw [if_neg hk1'] at hin
    have hcv2 : CV sz at_ dp lc tr pc sc c (cE c1 c.2.2.2.2.1 (nC kd vl (some a1) (0 ||| σ1.2 25 pn) (cA kd vl [(a1, σ1.2 25 pn, σ1.2 26 pn)]) none)) at' pc' sc' := CV_E (CV_tr (CV_M hW) y2) (Nat.le_refl _)
    have hle := y2.2.2.2.2.2.1.1
    rw [e1] at hle
    have hwr := wrapJ1 (c := c) (c1 := c1) (c2 := cE c1 c.2.2.2.2.1 (nC kd vl (some a1) (0 ||| σ1.2 25 pn) (cA kd vl [(a1, σ1.2 25 pn, σ1.2 26 pn)]) none)) (a := c.2.2.2.2.1) (m1 := c.2.2.2.2.1 + 1) hkd y1 y3 y5 (by omega) ⟨u1, u2, u3, u4, u5, u6, k1, v1, f1, u7⟩ y8 htr rfl rfl hcv2 eset_eq (fun q q1 q2 => eset_ne (by omega)) (Nat.le_refl _) (by show c.2.2.2.2.1 < c1.2.2.2.2.1; omega) (Nat.le_refl _) (by omega) (Or.inl (by omega)) (Or.inl rfl) hΓ ht1 (fun hno e => by have := k4 rfl hno e; rw [hcl] at this; exact this) (k5 rfl) (k8 rfl)
    obtain ⟨w1, σ2, w2, w3, w4, w5, w6⟩ := hwr
    rw [y6, w1]
    simp only
    have h34 : ((upd (upd σ1.1 19 (Int32.ofNat (pt' + 1))) 34 (Int32.ofNat pt'), w1A σ1.2 pt' kd x pn) : gm_S).1 34 = Int32.ofNat pt' := rfl
    refine ⟨_, _, rfl, hin, ?_, Or.inl ⟨trivial, at', pc', sc', pt' + 1, pt', ?_, hcv2, ?_, by omega, by omega, rfl, ?_, ?_⟩⟩
    · rw [← w2]; exact w4.1
    · rw [← w2]; exact w3
    · rw [← w2]; exact w4
    · rw [← w2]; exact w5
    · rw [← w2]; exact w6
  · subst hr
    rw [if_pos rfl]
    obtain ⟨c', i1, i2⟩ := initN (kd := kd) (v := vl) hcell x6 (by omega)
    refine ⟨σ1, c', rfl, i1, hrW, Or.inr ⟨rfl, ?_⟩⟩
    unfold FB
    rw [i2]
    exact hfb
theorem end_post {kk hh t1 : Nat} {Γ1 : Nat → Bool} {kd x vl : Int32} {r : Int32} {σ1 : gm_S} {a1 : Nat} {c1 : ck_S} (hW : CW sz at_ dp lc tr pc sc c) (hkd : kd = 4 ∨ kd = 5 ∨ kd = 6 ∨ kd = 8) (hk1 : 1 ≤ kk) (hpt5 : pt ≤ 5 * at_ + 9) (htr : tr ≤ 14) (hcu : CU sz at_ dp lc tr pc sc c a1 c1) (hrW : rW σ σ1) (hout : (r = 1 ∧ KG kk hh t1 Γ1 sz at_ dp lc tr pr pc sc pt σ c (σ1.1 34) σ1 a1 c1) ∨ (r = 0 ∧ FB σ1 c1)) (hΓ : Γ1 = (if kd = 8 then zext (Gc c) x.toNatClampNeg else Gc c)) (ht1 : t1 = (if kd = 6 then tr + 1 else tr)) (k4 : r = 1 → noF c1 → kd = 4 → bt (σ1.2 26 (σ1.1 34).toNatClampNeg) 0 = false) (k5 : r = 1 → noF c1 → kd = 5 → ∃ j, j < 26 ∧ x = Int32.ofNat j ∧ vl = c1.2.1 3 j ∧ c1.2.1 3 j ≠ 0 ∧ Gc c j = true) (k8 : r = 1 → noF c1 → kd = 8 → ∃ j, j < 26 ∧ x = Int32.ofNat j ∧ vl = c1.2.1 3 j ∧ c1.2.1 3 j ≠ 0 ∧ Gc c j = false) :
    ∃ σ' c', w1I kd x r σ1 = some (r, σ') ∧ sp_Node_init c1.2.2.2.2.1 kd vl (some a1) (cM c1 nD) = some c' ∧ rW σ σ' ∧ ((r = 1 ∧ UG (kk - 1) (hh + 1) sz at_ dp lc tr pr pc sc pt σ c (σ'.1 34) σ' c1.2.2.2.2.1 c') ∨ (r = 0 ∧ FB σ' c')) := by
  unfold w1I
  obtain ⟨at2, pc2, sc2, x1, x2, x3, x4, x5, x6⟩ := hcu
  have hcell : (cM c1 nD).2.2.2.1 c1.2.2.2.2.1 = some nD := eset_eq
  have hNN : NN (cM c1 nD) a1 := by
    obtain ⟨k, v, f, w, o, e⟩ := x6
    refine ⟨k, v, f, w, o, ?_⟩
    show eset _ _ _ a1 = _
    rw [eset_ne (by omega), e]
  rcases hout with ⟨hr, at', pc', sc', pt', pn, y1, y2, y3, y4, y5, y6, y7, y8⟩ | ⟨hr, hfb⟩
  · subst hr
    rw [if_neg (by decide)]
    have hs : sz ≤ 500 := hW.2.1
    have hat' : at' ≤ sz := y1.1.2.2.2.1
    have hat := y2.2.1
    obtain ⟨u1, u2, u3, u4, ug, u5, u6, k1, v1, f1, u7⟩ := y7
    have hcl : (σ1.1 34).toNatClampNeg = pn := by rw [y6]; exact cl_of (by omega)
    have u7' : (cM c1 nD).2.2.2.1 a1 = some (nC k1 v1 f1 (σ1.2 25 pn) (σ1.2 26 pn) none) := by
      show eset _ _ _ a1 = _
      rw [eset_ne (by omega), u7]
    have hin := init1 (kd := kd) (v := vl) hcell u7' (by omega)
    have hk1' : ¬ (kd = 1) := by rcases hkd with e | e | e | e <;> (rw [e]; decide)
    rw [if_neg hk1'] at hin
    have hle := y2.2.2.2.2.2.1.1
    have hcv2 : CV sz at_ dp lc tr pc sc c (cE (cM c1 nD) c1.2.2.2.2.1 (nC kd vl (some a1) (0 ||| σ1.2 25 pn) (cA kd vl [(a1, σ1.2 25 pn, σ1.2 26 pn)]) none)) at' pc' sc' := CV_E (CV_tr y2 (CV_M y2.1)) hle
    have hwr := wrapJ1 (c := c) (c1 := c1) (c2 := cE (cM c1 nD) c1.2.2.2.2.1 (nC kd vl (some a1) (0 ||| σ1.2 25 pn) (cA kd vl [(a1, σ1.2 25 pn, σ1.2 26 pn)]) none)) (a := c1.2.2.2.2.1) (m1 := c.2.2.2.2.1) hkd y1 y3 y5 (by omega) ⟨u1, u2, u3, u4, u5, u6, k1, v1, f1, u7⟩ y8 htr rfl rfl hcv2 eset_eq (fun q q1 q2 => by
      show eset (eset _ _ _) _ _ q = _
      rw [eset_ne (by omega), eset_ne (by omega)]) hle (Nat.lt_succ_self _) (Nat.le_succ _) (Nat.le_refl _) (Or.inr (Nat.le_refl _)) (Or.inr rfl) hΓ ht1 (fun hno e => by have := k4 rfl hno e; rw [hcl] at this; exact this) (k5 rfl) (k8 rfl)
    obtain ⟨w1, σ2, w2, w3, w4, w5, w6⟩ := hwr
    rw [y6, w1]
    simp only
    refine ⟨_, _, rfl, hin, ?_, Or.inl ⟨trivial, at', pc', sc', pt' + 1, pt', ?_, hcv2, ?_, by omega, by omega, rfl, ?_, ?_⟩⟩
    · rw [← w2]; exact w4.1
    · rw [← w2]; exact w3
    · rw [← w2]; exact w4
    · rw [← w2]; exact w5
    · rw [← w2]; exact w6
  · subst hr
    rw [if_pos rfl]
    obtain ⟨c', i1, i2⟩ := initN (kd := kd) (v := vl) hcell hNN (by omega)
    refine ⟨σ1, c', rfl, i1, hrW, Or.inr ⟨rfl, ?_⟩⟩
    unfold FB
    rw [i2]
    exact hfb
end J9
