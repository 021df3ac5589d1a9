section J5
variable {A : Nat → Nat → Int32} {n pn1 pn2 : Nat} {kd x : Int32}
theorem wi_o {one two : Int32} {j : Nat} (h : j < 20 ∨ 26 < j) : wiA A n kd x one two j = A j := by
  unfold wiA gm_up
  rw [if_neg (by omega), if_neg (by omega), mk_o h]
theorem st_o {p j : Nat} {w o : Int32} (h : j ≠ 25) (h2 : j ≠ 26) : stA A p w o j = A j := by
  unfold stA gm_up
  rw [if_neg h2, if_neg h]
theorem st_25 {p : Nat} {w o : Int32} : stA A p w o 25 = upd (A 25) p w := rfl
theorem st_26 {p : Nat} {w o : Int32} : stA A p w o 26 = upd (A 26) p o := rfl
def w1A (A : Nat → Nat → Int32) (n : Nat) (kd x : Int32) (pn1 : Nat) : Nat → Nat → Int32 := stA (wiA A n kd x (Int32.ofNat pn1) (-1)) n (A 25 pn1) (oE kd (A 26 pn1))
theorem w1_eq {σ : gm_S} (h : σ.1 19 = Int32.ofNat n) (hn : n < 2600) (hp : pn1 < n) : sp_Md_with kd x (Int32.ofNat pn1) (-1) σ = some (Int32.ofNat n, (upd σ.1 19 (Int32.ofNat (n + 1)), w1A σ.2 n kd x pn1)) := by
  rw [with_eq h hn (gi_of (by omega : pn1 < 2600) (by decide)) (Or.inl rfl), if_pos rfl, if_pos rfl]
  have hcl : (Int32.ofNat pn1).toNatClampNeg = pn1 := cl_of (by omega)
  have e25 : wO (wiA σ.2 n kd x (Int32.ofNat pn1) (-1)) [Int32.ofNat pn1] = σ.2 25 pn1 := by
    show (wiA σ.2 n kd x (Int32.ofNat pn1) (-1)) 25 (Int32.ofNat pn1).toNatClampNeg ||| 0 = _
    rw [or_0, hcl]
    show mkA σ.2 n kd x 0 25 pn1 = _
    rw [mk_ne (by omega)]
  have e26 : (wiA σ.2 n kd x (Int32.ofNat pn1) (-1)) 26 (Int32.ofNat pn1).toNatClampNeg = σ.2 26 pn1 := by
    rw [hcl]
    show mkA σ.2 n kd x 0 26 pn1 = _
    rw [mk_ne (by omega)]
  rw [e25, e26]
  rfl
theorem w1_o {j : Nat} (h : j < 20 ∨ 26 < j) : w1A A n kd x pn1 j = A j := by
  unfold w1A
  rw [st_o (by omega) (by omega), wi_o h]
theorem w1_ne {j q : Nat} (hn : n < 2600) (hp : pn1 < n) (h24 : A 24 pn1 = -1) (hq : q ≠ n) : w1A A n kd x pn1 j q = A j q := by
  by_cases hj : j < 20 ∨ 26 < j
  · rw [w1_o hj]
  · have hcl : (Int32.ofNat pn1).toNatClampNeg = pn1 := cl_of (by omega)
    unfold w1A
    by_cases h25 : j = 25
    · subst h25
      rw [st_25, upd_ne hq]
      show mkA A n kd x 0 25 q = _
      rw [mk_ne hq]
    · by_cases h26 : j = 26
      · subst h26
        rw [st_26, upd_ne hq]
        show mkA A n kd x 0 26 q = _
        rw [mk_ne hq]
      · rw [st_o h25 h26]
        unfold wiA gm_up
        by_cases h24' : j = 24
        · subst h24'
          rw [if_pos rfl, if_pos rfl]
          rw [hcl]
          by_cases hq1 : q = pn1
          · rw [hq1, upd_eq, h24]
          · rw [upd_ne hq1, mk_ne hq]
        · rw [if_neg h24']
          by_cases h23 : j = 23
          · subst h23
            rw [if_pos rfl, upd_ne hq, mk_ne hq]
          · rw [if_neg h23, mk_ne hq]
theorem w1_20 : w1A A n kd x pn1 20 n = kd := (upd_eq : upd (A 20) n kd n = kd)
theorem w1_21 : w1A A n kd x pn1 21 n = x := (upd_eq : upd (A 21) n x n = x)
theorem w1_23 : w1A A n kd x pn1 23 n = Int32.ofNat pn1 := (upd_eq : upd (upd (A 23) n (-1)) n (Int32.ofNat pn1) n = _)
theorem w1_25 : w1A A n kd x pn1 25 n = A 25 pn1 := (upd_eq : upd (upd (A 25) n 0) n (A 25 pn1) n = _)
theorem w1_26 : w1A A n kd x pn1 26 n = oE kd (A 26 pn1) := (upd_eq : upd (upd (A 26) n (on0 kd 0)) n (oE kd (A 26 pn1)) n = _)
theorem w1_24 (hn : n < 2600) (hp : pn1 < n) : w1A A n kd x pn1 24 n = -1 := by
  have hcl : (Int32.ofNat pn1).toNatClampNeg = pn1 := cl_of (by omega)
  unfold w1A
  rw [st_o (by decide) (by decide)]
  unfold wiA
  rw [if_pos rfl, hcl]
  show upd (mkA A n kd x 0 24) pn1 (-1) n = -1
  rw [upd_ne (by omega), mk_24, upd_eq]
theorem with1 {E1 E2 : ck_E} {β : Nat → Int32} {Γ Γ1 : Nat → Bool} {t t1 hh a a1 lo alo ahi alo1 ahi1 u v : Nat} {vl k1 v1 : Int32} {f1 : Option Nat} (hkd : kd = 4 ∨ kd = 5 ∨ kd = 6 ∨ kd = 8) (hn : n < 2600) (hlo : lo ≤ pn1) (hp : pn1 < n) (h24 : A 24 pn1 = -1) (hb : b16 (A 26 pn1)) (ht : t ≤ 14) (hal : alo ≤ a) (hah : a < ahi) (hal1 : alo ≤ alo1) (hah1 : ahi1 ≤ ahi) (hdis : a < alo1 ∨ ahi1 ≤ a ∨ (alo < a ∧ a + 2 = ahi ∧ kd = 4)) (ha1 : alo1 ≤ a1) (ha1' : a1 < ahi1) (hE1 : E1 a1 = some (nC k1 v1 f1 (A 25 pn1) (A 26 pn1) none)) (hE2 : E2 a = some (nC kd vl (some a1) (0 ||| A 25 pn1) (cA kd vl [(a1, A 25 pn1, A 26 pn1)]) none)) (hag : ∀ q, alo1 ≤ q → q < ahi1 → E2 q = E1 q) :
    b16 (w1A A n kd x pn1 26 n) ∧ E2 a = some (nC kd vl (some a1) (w1A A n kd x pn1 25 n) (w1A A n kd x pn1 26 n) none) ∧ (nR A E1 β hh Γ1 t1 ((Int32.ofNat pn1, a1), (lo, n), (alo1, ahi1), (u, v)) → Γ1 = (if kd = 8 then zext Γ x.toNatClampNeg else Γ) → t1 = (if kd = 6 then t + 1 else t) → (kd = 4 → bt (A 26 pn1) 0 = false) → (kd = 5 → ∃ j, j < 26 ∧ x = Int32.ofNat j ∧ vl = β j ∧ β j ≠ 0 ∧ Γ j = true) → (kd = 8 → ∃ j, j < 26 ∧ x = Int32.ofNat j ∧ vl = β j ∧ β j ≠ 0 ∧ Γ j = false) → nR (w1A A n kd x pn1) E2 β (hh + 1) Γ t ((Int32.ofNat n, a), (lo, n + 1), (alo, ahi), (u, v))) := by
  have hcl : (Int32.ofNat pn1).toNatClampNeg = pn1 := cl_of (by omega)
  have hn4 : kd = 4 ∨ kd = 5 ∨ kd = 6 ∨ kd = 8 := hkd
  have hca : cA kd vl [(a1, A 25 pn1, A 26 pn1)] = oE kd (A 26 pn1) := by
    have := cA_oE (T := A) (kd := kd) (v := vl) (y := ((Int32.ofNat pn1, a1), (lo, n), (alo1, ahi1), (u, v))) (ys := []) (Or.inr ⟨rfl, hkd⟩) (by simp only; rw [hcl]; exact hb) (fun w hw => by cases hw)
    have e : lT A [((Int32.ofNat pn1, a1), (lo, n), (alo1, ahi1), (u, v))] = [(a1, A 25 pn1, A 26 pn1)] := by
      show [(a1, A 25 (Int32.ofNat pn1).toNatClampNeg, A 26 (Int32.ofNat pn1).toNatClampNeg)] = _
      rw [hcl]
    rw [e] at this
    rw [this]
    simp only [List.foldl_nil]
    rw [hcl]
  have h26 : w1A A n kd x pn1 26 n = oE kd (A 26 pn1) := w1_26
  have h25 : w1A A n kd x pn1 25 n = A 25 pn1 := w1_25
  have hcell : E2 a = some (nC kd vl (some a1) (w1A A n kd x pn1 25 n) (w1A A n kd x pn1 26 n) none) := by rw [hE2, z_or, hca, h25, h26]
  refine ⟨by rw [h26]; exact b16_oE hb, hcell, fun hk hΓ ht1 hz h5 h8 => ?_⟩
  have hne : ∀ j q, q ≠ n → w1A A n kd x pn1 j q = A j q := fun j q hq => w1_ne hn hp h24 hq
  have hkid : nR (w1A A n kd x pn1) E2 β hh Γ1 t1 ((Int32.ofNat pn1, a1), (lo, n), (alo1, ahi1), (u, v)) := by
    refine nR_ext _ _ _ _ hk ⟨fun j q _ _ _ hq _ => hne j q ?_, fun q q1 q2 _ => hag q q1 q2, fun j _ => eg_E (hag a1 ha1 ha1'), fun _ => hag a1 ha1 ha1'⟩ (fun _ _ _ => rfl)
    simp only at hq
    omega
  have hgN : gN (w1A A n kd x pn1) Γ n = Γ1 := by
    unfold gN
    rw [w1_20, w1_21, hΓ]
  have htN : ztN (w1A A n kd x pn1) t n = t1 := by
    unfold ztN
    rw [w1_20, ht1]
  have hchn : chn (w1A A n kd x pn1) E2 ([((Int32.ofNat pn1, a1), (lo, n), (alo1, ahi1), (u, v))].map (fun y => y.1)) (w1A A n kd x pn1 23 n) (some a1) := by
    refine ⟨w1_23, rfl, gi_of (by omega) (by decide), ?_, none, ?_, ?_, rfl⟩
    · simp only
      rw [hcl, hne 25 pn1 (by omega), egI_e (eg_E (hag a1 ha1 ha1'))]
      exact nC_3 hE1
    · simp only
      rw [egR_e (eg_E (hag a1 ha1 ha1'))]
      exact nC_5 hE1
    · simp only
      rw [hcl, hne 24 pn1 (by omega)]
      exact h24
  refine nR_mk (y := ((Int32.ofNat pn1, a1), (lo, n), (alo1, ahi1), (u, v))) (ys := []) (by omega) (by omega) (by omega) hal hah ht w1_20 hcell hchn (by simp) ?_ ?_ (fun z hz => ?_) (fun q q1 q2 => ?_) ⟨rfl, rfl⟩ ?_
  · show _ = w1A A n kd x pn1 25 (Int32.ofNat pn1).toNatClampNeg ||| 0
    rw [or_0, hcl, hne 25 pn1 (by omega), h25]
  · simp only [List.foldl_nil]
    rw [hcl, hne 26 pn1 (by omega), h26]
  · rw [List.mem_singleton.mp hz]
    simp only
    rw [hgN, htN]
    exact ⟨Nat.le_refl _, by omega, by omega, ⟨hal1, hah1⟩, hdis, hkid⟩
  · by_cases hq : q = n
    · exact Or.inl hq
    · exact Or.inr ⟨_, List.mem_singleton.mpr rfl, by simp only; omega, by simp only; omega⟩
  · unfold kc lt_ok
    rw [w1_20, w1_21]
    rcases hn4 with e | e | e | e
    · refine Or.inr (Or.inr (Or.inr (Or.inr (Or.inl ⟨e, rfl, fun y hy => ?_⟩))))
      rw [List.mem_singleton.mp hy]
      simp only
      rw [hcl, hne 26 pn1 (by omega)]
      exact hz e
    · exact Or.inr (Or.inr (Or.inr (Or.inr (Or.inr (Or.inl ⟨e, rfl, h5 e⟩)))))
    · exact Or.inr (Or.inr (Or.inr (Or.inr (Or.inr (Or.inr (Or.inl ⟨e, rfl⟩))))))
    · exact Or.inr (Or.inr (Or.inr (Or.inr (Or.inr (Or.inr (Or.inr (Or.inr (Or.inl ⟨e, rfl, h8 e⟩))))))))
end J5
