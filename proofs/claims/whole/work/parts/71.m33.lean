def on0 (kd v : Int32) : Int32 := if kd = 7 then (1 : Int32) <<< (v &&& 31) else if kd = 1 then 2 else if kd = 0 then 1 else if kd = 2 then 1 else 0
def mkA (A : Nat → Nat → Int32) (n : Nat) (kd x v : Int32) : Nat → Nat → Int32 := gm_up (gm_up (gm_up (gm_up (gm_up (gm_up (gm_up A 20 (upd (A 20) n kd)) 21 (upd (A 21) n x)) 22 (upd (A 22) n v)) 23 (upd (A 23) n (-1))) 24 (upd (A 24) n (-1))) 25 (upd (A 25) n 0)) 26 (upd (A 26) n (on0 kd v))
theorem mk_eq {σ : gm_S} {n : Nat} {kd x v : Int32} (h : σ.1 19 = Int32.ofNat n) (hn : n < 2600) : sp_Md_makePart kd x v σ = some (Int32.ofNat n, (upd σ.1 19 (Int32.ofNat (n + 1)), mkA σ.2 n kd x v)) := by
  unfold sp_Md_makePart mkA on0
  rw [h, if_pos (gi_of hn (by decide)), cl_of (by omega), ofN_s]
  by_cases h7 : kd = 7
  · rw [if_pos h7, if_pos h7]
  · rw [if_neg h7, if_neg h7]
    by_cases h1 : kd = 1
    · rw [if_pos h1, if_pos h1]
    · rw [if_neg h1, if_neg h1]
      by_cases h0 : kd = 0
      · rw [if_pos h0, if_pos h0]
      · rw [if_neg h0, if_neg h0]
        by_cases h2 : kd = 2
        · rw [if_pos h2, if_pos h2]
        · rw [if_neg h2, if_neg h2]
section A1
variable {A : Nat → Nat → Int32} {n : Nat} {kd x v : Int32}
theorem mk_o {j : Nat} (h : j < 20 ∨ 26 < j) : mkA A n kd x v j = A j := by
  unfold mkA gm_up
  rw [if_neg (by omega), if_neg (by omega), if_neg (by omega), if_neg (by omega), if_neg (by omega), if_neg (by omega), if_neg (by omega)]
theorem mk_20 : mkA A n kd x v 20 = upd (A 20) n kd := rfl
theorem mk_21 : mkA A n kd x v 21 = upd (A 21) n x := rfl
theorem mk_22 : mkA A n kd x v 22 = upd (A 22) n v := rfl
theorem mk_23 : mkA A n kd x v 23 = upd (A 23) n (-1) := rfl
theorem mk_24 : mkA A n kd x v 24 = upd (A 24) n (-1) := rfl
theorem mk_25 : mkA A n kd x v 25 = upd (A 25) n 0 := rfl
theorem mk_26 : mkA A n kd x v 26 = upd (A 26) n (on0 kd v) := rfl
theorem mk_ne {j q : Nat} (h : q ≠ n) : mkA A n kd x v j q = A j q := by
  by_cases hj : j < 20 ∨ 26 < j
  · rw [mk_o hj]
  · have : j = 20 ∨ j = 21 ∨ j = 22 ∨ j = 23 ∨ j = 24 ∨ j = 25 ∨ j = 26 := by omega
    rcases this with e | e | e | e | e | e | e <;> subst e
    · rw [mk_20, upd_ne h]
    · rw [mk_21, upd_ne h]
    · rw [mk_22, upd_ne h]
    · rw [mk_23, upd_ne h]
    · rw [mk_24, upd_ne h]
    · rw [mk_25, upd_ne h]
    · rw [mk_26, upd_ne h]
end A1
def wO (T : mw_A) : List Int32 → Int32
  | [] => 0
  | p :: ps => T 25 p.toNatClampNeg ||| wO T ps
def chP (T : mw_A) : List Int32 → Int32 → Prop
  | [], k => k = -1
  | p :: ps, k => k = p ∧ gi p 2600 = true ∧ chP T ps (T 24 p.toNatClampNeg)
theorem or_0 {x : Int32} : x ||| 0 = x := by
  apply bt_ext
  intro i _
  rw [bt_or, bt_0, Bool.or_false]
theorem or_as {x y z : Int32} : x ||| y ||| z = x ||| (y ||| z) := by
  apply bt_ext
  intro i _
  rw [bt_or, bt_or, bt_or, bt_or, Bool.or_assoc]
theorem and1_c {x : Int32} : (x &&& 1 = 1) ↔ ¬ (x &&& 1 = 0) := by
  rw [and1_bt]
  constructor
  · intro h h0
    have h2 : bt (x &&& 1) 0 = bt 1 0 := by rw [h]
    rw [bt_and, bt_1, h0] at h2
    simp at h2
  · intro h
    have hb : bt x 0 = true := by
      cases hb : bt x 0
      · exact absurd hb h
      · rfl
    apply bt_ext
    intro i _
    rw [bt_and, bt_1]
    by_cases hi : i = 0
    · subst hi
      simp [hb]
    · simp [hi]
def stA (A : Nat → Nat → Int32) (p : Nat) (w o : Int32) : Nat → Nat → Int32 := gm_up (gm_up A 25 (upd (A 25) p w)) 26 (upd (A 26) p o)
theorem set_22 {σ : gm_S} {p : Nat} (hp : p < 2600) : ∀ (ks : List Int32) (w o k : Int32) (m : Nat), chP σ.2 ks k → ks.length < m → (∀ q ∈ ks, q ≠ σ.2 23 p) → sp_Md_settle_22 m (Int32.ofNat p) w o k σ = some (σ.1, stA σ.2 p (w ||| wO σ.2 ks) (oE (σ.2 20 p) (ks.foldl (fun c q => oS (σ.2 20 p) c (σ.2 26 q.toNatClampNeg)) o))) := by
  intro ks
  induction ks with
  | nil =>
    intro w o k m hc hm _
    obtain ⟨m, rfl⟩ : ∃ j, m = j + 1 := ⟨m - 1, by simp at hm; omega⟩
    have hk : k = -1 := hc
    unfold sp_Md_settle_22
    rw [if_pos hk, if_pos (gi_of hp (by decide)), cl_of (by omega)]
    show _ = some (σ.1, stA σ.2 p (w ||| 0) (oE (σ.2 20 p) o))
    rw [or_0]
    unfold oE stA
    by_cases h6 : σ.2 20 p = 6
    · rw [if_pos h6, if_pos h6]
    · rw [if_neg h6, if_neg h6]
      by_cases h4 : σ.2 20 p = 4
      · rw [if_pos h4, if_pos h4]
      · rw [if_neg h4, if_neg h4]
  | cons q qs ih =>
    intro w o k m hc hm hne
    obtain ⟨m, rfl⟩ : ∃ j, m = j + 1 := ⟨m - 1, by simp at hm; omega⟩
    obtain ⟨c1, c2, c3⟩ := hc
    subst c1
    have hn1 := gi_n1 c2
    have step : ∀ o', o' = oS (σ.2 20 p) o (σ.2 26 k.toNatClampNeg) → sp_Md_settle_22 m (Int32.ofNat p) (w ||| σ.2 25 k.toNatClampNeg) o' (σ.2 24 k.toNatClampNeg) σ = some (σ.1, stA σ.2 p (w ||| wO σ.2 (k :: qs)) (oE (σ.2 20 p) ((k :: qs).foldl (fun c q => oS (σ.2 20 p) c (σ.2 26 q.toNatClampNeg)) o))) := by
      intro o' ho
      rw [ih _ _ _ m c3 (by simp at hm; omega) (fun z hz => hne z (List.mem_cons_of_mem _ hz)), or_as, ho]
      rfl
    unfold sp_Md_settle_22
    rw [if_neg hn1, if_pos c2, if_pos (gi_of hp (by decide)), cl_of (by omega), if_neg (hne k (by simp))]
    by_cases h3 : σ.2 20 p = 3
    · have n10 : ¬ (σ.2 20 p = 10) := by rw [h3]; decide
      have n9 : ¬ (σ.2 20 p = 9) := by rw [h3]; decide
      rw [if_pos h3, if_neg n10, if_neg n9]
      exact step _ (by unfold oS; rw [if_pos h3])
    · rw [if_neg h3]
      by_cases h10 : σ.2 20 p = 10
      · have n9 : ¬ (σ.2 20 p = 9) := by rw [h10]; decide
        rw [if_pos h10, if_neg n9]
        exact step _ (by unfold oS; rw [if_neg h3, if_pos h10])
      · rw [if_neg h10]
        by_cases h9 : σ.2 20 p = 9
        · rw [if_pos h9]
          by_cases h1 : o &&& 1 = 1
          · rw [if_pos h1]
            exact step _ (by unfold oS; rw [if_neg h3, if_neg h10, if_pos h9, if_neg (and1_c.mp h1)])
          · rw [if_neg h1]
            exact step _ (by
              unfold oS
              rw [if_neg h3, if_neg h10, if_pos h9, if_pos (Classical.byContradiction fun e => h1 (and1_c.mpr e))])
        · rw [if_neg h9]
          exact step _ (by unfold oS; rw [if_neg h3, if_neg h10, if_neg h9])
theorem set_eq {σ : gm_S} {p : Nat} {k : Int32} {ks : List Int32} (hp : p < 2600) (h23 : σ.2 23 p = k) (hk : gi k 2600 = true) (hc : chP σ.2 ks (σ.2 24 k.toNatClampNeg)) (hl : ks.length < 2600) (hne : ∀ q ∈ ks, q ≠ k) : sp_Md_settle (Int32.ofNat p) σ = some (σ.1, stA σ.2 p (wO σ.2 (k :: ks)) (oE (σ.2 20 p) (ks.foldl (fun c q => oS (σ.2 20 p) c (σ.2 26 q.toNatClampNeg)) (σ.2 26 k.toNatClampNeg)))) := by
  unfold sp_Md_settle
  rw [if_pos (gi_of hp (by decide)), cl_of (by omega), h23, if_pos hk]
  have hn1 := gi_n1 hk
  conv => lhs; unfold sp_Md_settle_22
  rw [if_neg hn1, if_pos hk, if_pos (gi_of hp (by decide)), cl_of (by omega), if_pos h23.symm]
  rw [set_22 hp ks _ _ _ 2600 hc hl (fun q hq => by rw [h23]; exact hne q hq)]
  have : (0 : Int32) ||| σ.2 25 k.toNatClampNeg ||| wO σ.2 ks = wO σ.2 (k :: ks) := by
    rw [or_as]
    show 0 ||| (wO σ.2 (k :: ks)) = _
    apply bt_ext
    intro i _
    rw [bt_or, bt_0, Bool.false_or]
  rw [this]
def wiA (A : Nat → Nat → Int32) (n : Nat) (kd x : Int32) (one two : Int32) : Nat → Nat → Int32 := gm_up (gm_up (mkA A n kd x 0) 23 (upd (mkA A n kd x 0 23) n one)) 24 (if two = -1 then upd (mkA A n kd x 0 24) one.toNatClampNeg (-1) else upd (upd (mkA A n kd x 0 24) one.toNatClampNeg two) two.toNatClampNeg (-1))
theorem with_eq {σ : gm_S} {n : Nat} {kd x one two : Int32} (h : σ.1 19 = Int32.ofNat n) (hn : n < 2600) (h1 : gi one 2600 = true) (h2 : two = -1 ∨ gi two 2600 = true ∧ two ≠ one ∧ one.toNatClampNeg ≠ two.toNatClampNeg) : sp_Md_with kd x one two σ = some (Int32.ofNat n, (upd σ.1 19 (Int32.ofNat (n + 1)), stA (wiA σ.2 n kd x one two) n (if two = -1 then wO (wiA σ.2 n kd x one two) [one] else wO (wiA σ.2 n kd x one two) [one, two]) (oE kd (if two = -1 then (wiA σ.2 n kd x one two) 26 one.toNatClampNeg else oS kd ((wiA σ.2 n kd x one two) 26 one.toNatClampNeg) ((wiA σ.2 n kd x one two) 26 two.toNatClampNeg))))) := by
  unfold sp_Md_with
  rw [mk_eq h hn]
  simp only
  rw [if_pos (gi_of hn (by decide)), if_pos h1, cl_of (by omega)]
  by_cases ht : two = -1
  · rw [if_pos ht, if_pos ht, if_pos ht]
    have e1 : (gm_up (gm_up (mkA σ.2 n kd x 0) 23 (upd (mkA σ.2 n kd x 0 23) n one)) 24 (upd (mkA σ.2 n kd x 0 24) one.toNatClampNeg two)) = wiA σ.2 n kd x one two := by
      unfold wiA
      rw [if_pos ht, ht]
    have e1' : (gm_up (gm_up (mkA σ.2 n kd x 0) 23 (upd (mkA σ.2 n kd x 0 23) n one)) 24 (upd ((mkA σ.2 n kd x 0) 24) one.toNatClampNeg two)) = wiA σ.2 n kd x one two := e1
    rw [e1']
    have hset := set_eq (σ := (upd σ.1 19 (Int32.ofNat (n + 1)), wiA σ.2 n kd x one two)) (p := n) (k := one) (ks := []) hn (by
      show upd (mkA σ.2 n kd x 0 23) n one n = one
      rw [upd_eq]) h1 (by
      show (wiA σ.2 n kd x one two) 24 one.toNatClampNeg = -1
      unfold wiA
      rw [if_pos ht]
      show upd (mkA σ.2 n kd x 0 24) one.toNatClampNeg (-1) one.toNatClampNeg = -1
      rw [upd_eq]) (by simp) (fun q hq => by cases hq)
    rw [hset]
    have h20 : (wiA σ.2 n kd x one two) 20 n = kd := by
      show mkA σ.2 n kd x 0 20 n = kd
      rw [mk_20, upd_eq]
    simp only [List.foldl_nil]
    rw [h20]
  · obtain ⟨t1, t2, t3⟩ := h2.resolve_left ht
    rw [if_neg ht, if_pos t1, if_neg ht, if_neg ht]
    have e1 : (gm_up (gm_up (gm_up (mkA σ.2 n kd x 0) 23 (upd (mkA σ.2 n kd x 0 23) n one)) 24 (upd (mkA σ.2 n kd x 0 24) one.toNatClampNeg two)) 24 (upd (upd (mkA σ.2 n kd x 0 24) one.toNatClampNeg two) two.toNatClampNeg (-1))) = wiA σ.2 n kd x one two := by
      unfold wiA
      rw [if_neg ht]
      funext j
      unfold gm_up
      by_cases hj : j = 24 <;> simp [hj]
    rw [e1]
    have h24o : (wiA σ.2 n kd x one two) 24 one.toNatClampNeg = two := by
      unfold wiA
      rw [if_neg ht]
      show upd (upd (mkA σ.2 n kd x 0 24) one.toNatClampNeg two) two.toNatClampNeg (-1) one.toNatClampNeg = two
      rw [upd_ne t3, upd_eq]
    have h24t : (wiA σ.2 n kd x one two) 24 two.toNatClampNeg = -1 := by
      unfold wiA
      rw [if_neg ht]
      show upd (upd (mkA σ.2 n kd x 0 24) one.toNatClampNeg two) two.toNatClampNeg (-1) two.toNatClampNeg = -1
      rw [upd_eq]
    have hset := set_eq (σ := (upd σ.1 19 (Int32.ofNat (n + 1)), wiA σ.2 n kd x one two)) (p := n) (k := one) (ks := [two]) hn (by
      show upd (mkA σ.2 n kd x 0 23) n one n = one
      rw [upd_eq]) h1 (by
      show chP (wiA σ.2 n kd x one two) [two] ((wiA σ.2 n kd x one two) 24 one.toNatClampNeg)
      exact ⟨h24o, t1, h24t⟩) (by simp) (fun q hq => by rw [List.mem_singleton.mp hq]; exact t2)
    rw [hset]
    have h20 : (wiA σ.2 n kd x one two) 20 n = kd := by
      show mkA σ.2 n kd x 0 20 n = kd
      rw [mk_20, upd_eq]
    simp only [List.foldl_nil, List.foldl_cons]
    rw [h20]
