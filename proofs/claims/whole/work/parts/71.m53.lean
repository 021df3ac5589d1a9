section J6
variable {A : Nat → Nat → Int32} {n pn1 pn2 : Nat} {kd x : Int32}
def w2A (A : Nat → Nat → Int32) (n : Nat) (kd x : Int32) (pn1 pn2 : Nat) : Nat → Nat → Int32 := stA (wiA A n kd x (Int32.ofNat pn1) (Int32.ofNat pn2)) n (A 25 pn1 ||| A 25 pn2) (oE kd (oS kd (A 26 pn1) (A 26 pn2)))
theorem ofN_n1 {k : Nat} (hk : k < 2147483648) : Int32.ofNat k ≠ -1 := fun e => by
  have h1 : (Int32.ofNat k).toInt = k := Int32.toInt_ofNat_of_lt hk
  rw [e, show (-1 : Int32).toInt = -1 from rfl] at h1
  omega
theorem w2_eq {σ : gm_S} (h : σ.1 19 = Int32.ofNat n) (hn : n < 2600) (hp : pn1 < n) (hp2 : pn2 < n) (hne : pn1 ≠ pn2) : sp_Md_with kd x (Int32.ofNat pn1) (Int32.ofNat pn2) σ = some (Int32.ofNat n, (upd σ.1 19 (Int32.ofNat (n + 1)), w2A σ.2 n kd x pn1 pn2)) := by
  have hcl : (Int32.ofNat pn1).toNatClampNeg = pn1 := cl_of (by omega)
  have hcl2 : (Int32.ofNat pn2).toNatClampNeg = pn2 := cl_of (by omega)
  have h2 : Int32.ofNat pn2 ≠ -1 := ofN_n1 (by omega)
  rw [with_eq h hn (gi_of (by omega : pn1 < 2600) (by decide)) (Or.inr ⟨gi_of (by omega : pn2 < 2600) (by decide), fun e => hne ((eq_N (by omega) (by omega)).mp e).symm, by rw [hcl, hcl2]; exact hne⟩), if_neg h2, if_neg h2]
  have e25 : wO (wiA σ.2 n kd x (Int32.ofNat pn1) (Int32.ofNat pn2)) [Int32.ofNat pn1, Int32.ofNat pn2] = σ.2 25 pn1 ||| σ.2 25 pn2 := by
    show (wiA σ.2 n kd x (Int32.ofNat pn1) (Int32.ofNat pn2)) 25 (Int32.ofNat pn1).toNatClampNeg ||| ((wiA σ.2 n kd x (Int32.ofNat pn1) (Int32.ofNat pn2)) 25 (Int32.ofNat pn2).toNatClampNeg ||| 0) = _
    rw [or_0, hcl, hcl2]
    show mkA σ.2 n kd x 0 25 pn1 ||| mkA σ.2 n kd x 0 25 pn2 = _
    rw [mk_ne (by omega), mk_ne (by omega)]
  have e26 : (wiA σ.2 n kd x (Int32.ofNat pn1) (Int32.ofNat pn2)) 26 (Int32.ofNat pn1).toNatClampNeg = σ.2 26 pn1 := by
    rw [hcl]
    show mkA σ.2 n kd x 0 26 pn1 = _
    rw [mk_ne (by omega)]
  have e26' : (wiA σ.2 n kd x (Int32.ofNat pn1) (Int32.ofNat pn2)) 26 (Int32.ofNat pn2).toNatClampNeg = σ.2 26 pn2 := by
    rw [hcl2]
    show mkA σ.2 n kd x 0 26 pn2 = _
    rw [mk_ne (by omega)]
  rw [e25, e26, e26']
  rfl
theorem w2_o {j : Nat} (h : j < 20 ∨ 26 < j) : w2A A n kd x pn1 pn2 j = A j := by
  unfold w2A
  rw [st_o (by omega) (by omega), wi_o h]
theorem w2_ne {j q : Nat} (hn : n < 2600) (hp2 : pn2 < n) (hp : pn1 < n) (h24 : A 24 pn2 = -1) (hq : q ≠ n) (hjq : j ≠ 24 ∨ q ≠ pn1) : w2A A n kd x pn1 pn2 j q = A j q := by
  by_cases hj : j < 20 ∨ 26 < j
  · rw [w2_o hj]
  · have hcl : (Int32.ofNat pn1).toNatClampNeg = pn1 := cl_of (by omega)
    have hcl2 : (Int32.ofNat pn2).toNatClampNeg = pn2 := cl_of (by omega)
    have h2 : Int32.ofNat pn2 ≠ -1 := ofN_n1 (by omega)
    unfold w2A
    by_cases h25 : j = 25
    · subst h25
      rw [st_25, upd_ne hq]
      show mkA A n kd x 0 25 q = _
      rw [mk_ne hq]
    · by_cases h26 : j = 26
      · subst h26
        rw [st_26, upd_ne hq]
        show mkA A n kd x 0 26 q = _
        rw [mk_ne hq]
      · rw [st_o h25 h26]
        unfold wiA gm_up
        by_cases h24' : j = 24
        · subst h24'
          have hq1 : q ≠ pn1 := hjq.resolve_left (fun h => h rfl)
          rw [if_pos rfl, if_neg h2, hcl, hcl2]
          by_cases hq2 : q = pn2
          · rw [hq2, upd_eq, h24]
          · rw [upd_ne hq2, upd_ne hq1, mk_ne hq]
        · rw [if_neg h24']
          by_cases h23 : j = 23
          · subst h23
            rw [if_pos rfl, upd_ne hq, mk_ne hq]
          · rw [if_neg h23, mk_ne hq]
theorem w2_20 : w2A A n kd x pn1 pn2 20 n = kd := (upd_eq : upd (A 20) n kd n = kd)
theorem w2_21 : w2A A n kd x pn1 pn2 21 n = x := (upd_eq : upd (A 21) n x n = x)
theorem w2_23 : w2A A n kd x pn1 pn2 23 n = Int32.ofNat pn1 := (upd_eq : upd (upd (A 23) n (-1)) n (Int32.ofNat pn1) n = _)
theorem w2_25 : w2A A n kd x pn1 pn2 25 n = A 25 pn1 ||| A 25 pn2 := (upd_eq : upd (upd (A 25) n 0) n (A 25 pn1 ||| A 25 pn2) n = _)
theorem w2_26 : w2A A n kd x pn1 pn2 26 n = oE kd (oS kd (A 26 pn1) (A 26 pn2)) := (upd_eq : upd (upd (A 26) n (on0 kd 0)) n (oE kd (oS kd (A 26 pn1) (A 26 pn2))) n = _)
theorem w2_24 (hn : n < 2600) (hp : pn1 < n) (hp2 : pn2 < n) (hne : pn1 ≠ pn2) : w2A A n kd x pn1 pn2 24 n = -1 ∧ w2A A n kd x pn1 pn2 24 pn1 = Int32.ofNat pn2 := by
  have hcl : (Int32.ofNat pn1).toNatClampNeg = pn1 := cl_of (by omega)
  have hcl2 : (Int32.ofNat pn2).toNatClampNeg = pn2 := cl_of (by omega)
  have h2 : Int32.ofNat pn2 ≠ -1 := ofN_n1 (by omega)
  have e : w2A A n kd x pn1 pn2 24 = upd (upd (mkA A n kd x 0 24) pn1 (Int32.ofNat pn2)) pn2 (-1) := by
    unfold w2A
    rw [st_o (by decide) (by decide)]
    unfold wiA
    rw [if_neg h2, hcl, hcl2]
    rfl
  rw [e]
  constructor
  · rw [upd_ne (by omega), upd_ne (by omega), mk_24, upd_eq]
  · rw [upd_ne hne, upd_eq]
theorem eg_nx {E1 E2 : ck_E} {a1 : Nat} {k1 v1 w1 o1 : Int32} {f1 nx nx' : Option Nat} (h1 : E1 a1 = some (nC k1 v1 f1 w1 o1 nx)) (h2 : E2 a1 = some (nC k1 v1 f1 w1 o1 nx')) : ∀ j, j < 5 → eg E2 a1 2 j = eg E1 a1 2 j := by
  intro j hj
  unfold eg
  rw [h1, h2]
  match j, hj with
  | 0, _ => rfl
  | 1, _ => rfl
  | 2, _ => rfl
  | 3, _ => rfl
  | 4, _ => rfl
theorem with2 {E1 E2 : ck_E} {β : Nat → Int32} {Γ : Nat → Bool} {t hh a a1 a2 lo mid alo ahi b1 e1 b2 e2 u w v : Nat} {vl k1 v1 k2 v2 : Int32} {f1 f2 : Option Nat} (hkd : kd = 3 ∨ kd = 9 ∨ kd = 10) (hn : n < 2600) (hlo : lo ≤ pn1) (hp : pn1 < mid) (hlo2 : mid ≤ pn2) (hp2 : pn2 < n) (h24 : A 24 pn1 = -1) (h24' : A 24 pn2 = -1) (hb1 : b16 (A 26 pn1)) (hb2 : b16 (A 26 pn2)) (ht : t ≤ 14) (hal : alo ≤ a) (hah : a < ahi) (x1 : alo ≤ b1) (x2 : e1 ≤ ahi) (x3 : a < b1 ∨ e1 ≤ a) (y1 : alo ≤ b2) (y2 : e2 ≤ ahi) (y3 : a < b2 ∨ e2 ≤ a) (ha1 : b1 ≤ a1) (ha1' : a1 < e1) (ha2 : b2 ≤ a2) (ha2' : a2 < e2) (hrg : ¬ (b1 < a1 ∧ a1 + 2 = e1 ∧ A 20 pn1 = 4)) (hdis : e1 ≤ b2 ∨ e2 ≤ b1) (hE1 : E1 a1 = some (nC k1 v1 f1 (A 25 pn1) (A 26 pn1) none)) (hE1' : E1 a2 = some (nC k2 v2 f2 (A 25 pn2) (A 26 pn2) none)) (hE2 : E2 a = some (nC kd vl (some a1) (0 ||| A 25 pn1 ||| A 25 pn2) (cA kd vl [(a1, A 25 pn1, A 26 pn1), (a2, A 25 pn2, A 26 pn2)]) none)) (hE2' : E2 a1 = some (nC k1 v1 f1 (A 25 pn1) (A 26 pn1) (some a2))) (hag1 : ∀ q, b1 ≤ q → q < e1 → q ≠ a1 → E2 q = E1 q) (hag2 : ∀ q, b2 ≤ q → q < e2 → E2 q = E1 q) :
    b16 (w2A A n kd x pn1 pn2 26 n) ∧ E2 a = some (nC kd vl (some a1) (w2A A n kd x pn1 pn2 25 n) (w2A A n kd x pn1 pn2 26 n) none) ∧ (nR A E1 β hh Γ t ((Int32.ofNat pn1, a1), (lo, mid), (b1, e1), (u, w)) → nR A E1 β hh Γ t ((Int32.ofNat pn2, a2), (mid, n), (b2, e2), (w, v)) → (kd = 3 → ∃ j, j < 26 ∧ x = Int32.ofNat j ∧ vl = β j ∧ β j ≠ 0 ∧ Γ j = true) → nR (w2A A n kd x pn1 pn2) E2 β (hh + 1) Γ t ((Int32.ofNat n, a), (lo, n + 1), (alo, ahi), (u, v))) := by
  have hcl : (Int32.ofNat pn1).toNatClampNeg = pn1 := cl_of (by omega)
  have hcl2 : (Int32.ofNat pn2).toNatClampNeg = pn2 := cl_of (by omega)
  have hkd' := hkd
  have hca : cA kd vl [(a1, A 25 pn1, A 26 pn1), (a2, A 25 pn2, A 26 pn2)] = oE kd (oS kd (A 26 pn1) (A 26 pn2)) := by
    have := cA_oE (T := A) (kd := kd) (v := vl) (y := ((Int32.ofNat pn1, a1), (lo, mid), (b1, e1), (u, w))) (ys := [((Int32.ofNat pn2, a2), (mid, n), (b2, e2), (w, v))]) (Or.inl hkd) (by simp only; rw [hcl]; exact hb1) (fun z hz => by rw [List.mem_singleton.mp hz]; simp only; rw [hcl2]; exact hb2)
    have e : lT A [((Int32.ofNat pn1, a1), (lo, mid), (b1, e1), (u, w)), ((Int32.ofNat pn2, a2), (mid, n), (b2, e2), (w, v))] = [(a1, A 25 pn1, A 26 pn1), (a2, A 25 pn2, A 26 pn2)] := by
      show [(a1, A 25 (Int32.ofNat pn1).toNatClampNeg, A 26 (Int32.ofNat pn1).toNatClampNeg), (a2, A 25 (Int32.ofNat pn2).toNatClampNeg, A 26 (Int32.ofNat pn2).toNatClampNeg)] = _
      rw [hcl, hcl2]
    rw [e] at this
    rw [this]
    simp only [List.foldl_nil, List.foldl_cons]
    rw [hcl, hcl2]
  have h26 : w2A A n kd x pn1 pn2 26 n = oE kd (oS kd (A 26 pn1) (A 26 pn2)) := w2_26
  have h25 : w2A A n kd x pn1 pn2 25 n = A 25 pn1 ||| A 25 pn2 := w2_25
  have hcell : E2 a = some (nC kd vl (some a1) (w2A A n kd x pn1 pn2 25 n) (w2A A n kd x pn1 pn2 26 n) none) := by rw [hE2, z_or, hca, h25, h26]
  refine ⟨by rw [h26]; exact b16_oE (b16_oS hb1 hb2), hcell, fun hk1 hk2 h3 => ?_⟩
  have hne : ∀ j q, q ≠ n → (j ≠ 24 ∨ q ≠ pn1) → w2A A n kd x pn1 pn2 j q = A j q := fun j q hq hj => w2_ne hn hp2 (by omega) h24' hq hj
  have hE2a2 : E2 a2 = E1 a2 := hag2 a2 ha2 ha2'
  have hkid1 : nR (w2A A n kd x pn1 pn2) E2 β hh Γ t ((Int32.ofNat pn1, a1), (lo, mid), (b1, e1), (u, w)) := by
    refine nR_ext _ _ _ _ hk1 ⟨fun j q _ _ q1 q2 hj => hne j q ?_ ?_, fun q q1 q2 q3 => hag1 q q1 q2 q3, eg_nx hE1 hE2', fun e => absurd (by unfold rgd at e; simp only at e; rw [hcl] at e; exact e) hrg⟩ (fun _ _ _ => rfl)
    · simp only at q2
      omega
    · simp only at hj
      rw [hcl] at hj
      exact hj
  have hkid2 : nR (w2A A n kd x pn1 pn2) E2 β hh Γ t ((Int32.ofNat pn2, a2), (mid, n), (b2, e2), (w, v)) := by
    refine nR_ext _ _ _ _ hk2 ⟨fun j q _ _ q1 q2 _ => hne j q ?_ (Or.inr ?_), fun q q1 q2 _ => hag2 q q1 q2, fun j _ => eg_E hE2a2, fun _ => hE2a2⟩ (fun _ _ _ => rfl)
    · simp only at q2
      omega
    · simp only at q1
      omega
  have k8 : kd ≠ 8 := by rcases hkd' with e | e | e <;> (rw [e]; decide)
  have k6 : kd ≠ 6 := by rcases hkd' with e | e | e <;> (rw [e]; decide)
  have hgN : gN (w2A A n kd x pn1 pn2) Γ n = Γ := by
    unfold gN
    rw [w2_20, if_neg k8]
  have htN : ztN (w2A A n kd x pn1 pn2) t n = t := by
    unfold ztN
    rw [w2_20, if_neg k6]
  have hpne : pn1 ≠ pn2 := by omega
  obtain ⟨z24, z24'⟩ := w2_24 (A := A) (kd := kd) (x := x) hn (by omega : pn1 < n) hp2 hpne
  have hchn : chn (w2A A n kd x pn1 pn2) E2 ([((Int32.ofNat pn1, a1), (lo, mid), (b1, e1), (u, w)), ((Int32.ofNat pn2, a2), (mid, n), (b2, e2), (w, v))].map (fun y => y.1)) (w2A A n kd x pn1 pn2 23 n) (some a1) := by
    refine ⟨w2_23, rfl, gi_of (by omega) (by decide), ?_, some a2, nC_5 hE2', ?_, rfl, gi_of (by omega) (by decide), ?_, none, ?_, ?_, rfl⟩
    · simp only
      rw [hcl, hne 25 pn1 (by omega) (Or.inl (by decide))]
      exact nC_3 hE2'
    · simp only
      rw [hcl]
      exact z24'
    · simp only
      rw [hcl2, hne 25 pn2 (by omega) (Or.inl (by decide)), egI_e (eg_E hE2a2)]
      exact nC_3 hE1'
    · simp only
      rw [egR_e (eg_E hE2a2)]
      exact nC_5 hE1'
    · simp only
      rw [hcl2, hne 24 pn2 (by omega) (Or.inr (by omega))]
      exact h24'
  refine nR_mk (y := ((Int32.ofNat pn1, a1), (lo, mid), (b1, e1), (u, w))) (ys := [((Int32.ofNat pn2, a2), (mid, n), (b2, e2), (w, v))]) (by omega) (by omega) (by omega) hal hah ht w2_20 hcell hchn (by simp) ?_ ?_ (fun z hz => ?_) (fun q q1 q2 => ?_) ⟨rfl, rfl, rfl⟩ ?_
  · show _ = w2A A n kd x pn1 pn2 25 (Int32.ofNat pn1).toNatClampNeg ||| (w2A A n kd x pn1 pn2 25 (Int32.ofNat pn2).toNatClampNeg ||| 0)
    rw [or_0, hcl, hcl2, hne 25 pn1 (by omega) (Or.inl (by decide)), hne 25 pn2 (by omega) (Or.inl (by decide)), h25]
  · simp only [List.foldl_nil, List.foldl_cons]
    rw [hcl, hcl2, hne 26 pn1 (by omega) (Or.inl (by decide)), hne 26 pn2 (by omega) (Or.inl (by decide)), h26]
  · rw [hgN, htN]
    rcases List.mem_cons.mp hz with e | e
    · rw [e]
      exact ⟨Nat.le_refl _, by simp only; omega, by simp only; omega, ⟨x1, x2⟩, x3.elim Or.inl (fun e => Or.inr (Or.inl e)), hkid1⟩
    · rw [List.mem_singleton.mp e]
      exact ⟨by simp only; omega, by simp only; omega, by simp only; omega, ⟨y1, y2⟩, y3.elim Or.inl (fun e => Or.inr (Or.inl e)), hkid2⟩
  · by_cases hq : q = n
    · exact Or.inl hq
    · by_cases hm : q < mid
      · exact Or.inr ⟨((Int32.ofNat pn1, a1), (lo, mid), (b1, e1), (u, w)), by simp, q1, hm⟩
      · exact Or.inr ⟨((Int32.ofNat pn2, a2), (mid, n), (b2, e2), (w, v)), by simp, by simp only; omega, by simp only; omega⟩
  · unfold kc lt_ok
    rw [w2_20, w2_21]
    rcases hkd' with e | e | e
    · exact Or.inr (Or.inr (Or.inr (Or.inl ⟨e, rfl, h3 e⟩)))
    · exact Or.inr (Or.inr (Or.inr (Or.inr (Or.inr (Or.inr (Or.inr (Or.inr (Or.inr (Or.inl ⟨e, by simp⟩)))))))))
    · exact Or.inr (Or.inr (Or.inr (Or.inr (Or.inr (Or.inr (Or.inr (Or.inr (Or.inr (Or.inr ⟨e, by simp⟩)))))))))
end J6
