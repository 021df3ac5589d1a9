def mw (T : mw_A) (S : Int32) : Nat → mw_F
  | 0 => fun _ _ _ _ _ => none
  | n + 1 => fun c p res sure K => if gi p 2600 = true then (if c = true then mw_can T S (mw T S n) p res sure K else mw_must T S (mw T S n) p res K) else none
theorem c_Md_mw {l : Launch} {F : gx_F} {a : Nat} {A : Nat → Nat} {T : mw_A} {S : Int32} (n : Nat) : mw_IH l F a A (3 * n + 6) T S (mw T S n) := by
  induction n with
  | zero => exact ⟨(fun _ _ _ _ _ _ _ _ h => nomatch h), (fun _ _ _ _ _ _ _ _ _ h => nomatch h)⟩
  | succ n ih =>
    refine ⟨fun dd p res v σ hd hT hS h => ?_, fun dd p res sure v σ hd hT hS h => ?_⟩
    · unfold mw at h
      by_cases g1 : gi p 2600 = true
      · rw [if_pos g1, if_neg (by decide)] at h
        exact c_Md_must ih (by omega) (by omega) hT hS g1 h
      · rw [if_neg g1] at h
        cases h
    · unfold mw at h
      by_cases g1 : gi p 2600 = true
      · rw [if_pos g1, if_pos rfl] at h
        exact c_Md_can ih (by omega) (by omega) hT hS g1 h
      · rw [if_neg g1] at h
        cases h
/-- the reference's state with what stands and what failed -/
def gw_st (σ : gm_S) (s f : Int32) : gm_S := (upd (upd σ.1 41 s) 40 f, σ.2)
theorem upd_ne {f : Nat → Int32} {k j : Nat} {x : Int32} (h : j ≠ k) : upd f k x j = f j := if_neg h
theorem upd_eq {f : Nat → Int32} {k : Nat} {x : Int32} : upd f k x k = x := if_pos rfl
theorem upd_cm {f : Nat → Int32} {k j : Nat} {x y : Int32} (h : j ≠ k) : upd (upd f k x) j y = upd (upd f j y) k x := by
  funext i
  unfold upd
  by_cases h1 : i = j
  · have h2 : i ≠ k := fun e => h (h1.symm.trans e)
    rw [if_pos h1, if_neg h2, if_pos h1]
  · by_cases h2 : i = k
    · rw [if_neg h1, if_pos h2, if_pos h2]
    · rw [if_neg h1, if_neg h2, if_neg h2, if_neg h1]
theorem gw_r40 {σ : gm_S} {s f : Int32} : (gw_st σ s f).1 40 = f := rfl
theorem gw_r41 {σ : gm_S} {s f : Int32} : (gw_st σ s f).1 41 = s := rfl
theorem gw_r39 {σ : gm_S} {s f : Int32} : (gw_st σ s f).1 39 = σ.1 39 := rfl
theorem gw_rS {σ : gm_S} {s f : Int32} : (gw_st σ s f).2 = σ.2 := rfl
theorem gw_tr {σ : gm_S} {s f s' f' : Int32} : gw_st (gw_st σ s f) s' f' = gw_st σ s' f' := by
  unfold gw_st
  dsimp only
  rw [upd_cm (k := 40) (j := 41) (by decide), upd_upd, upd_upd]
theorem gw_e {σ : gm_S} : σ = gw_st σ (σ.1 41) (σ.1 40) := by
  unfold gw_st
  rw [upd_self, upd_self]
theorem gw_e41 {σ : gm_S} {x : Int32} : (upd σ.1 41 x, σ.2) = gw_st σ x (σ.1 40) := by
  unfold gw_st
  have h : σ.1 40 = (upd σ.1 41 x) 40 := rfl
  rw [h, upd_self]
theorem gw_e40 {σ : gm_S} {x : Int32} : (upd σ.1 40 x, σ.2) = gw_st σ (σ.1 41) x := by
  unfold gw_st
  rw [upd_self]
theorem gw_f41 {σ : gm_S} {s f x : Int32} : (upd (gw_st σ s f).1 41 x, (gw_st σ s f).2) = gw_st σ x f := gw_e41.trans gw_tr
abbrev gw_V : Type := Int32 × Int32 × Int32
abbrev gw_G : Type := Int32 → Int32 → (Nat → Int32) → Int32 → Int32 → Option gw_V
def gw_lp (g : gw_G) (k res : Int32) (K : Nat → Int32) (s f : Int32) : Option gw_V := match g k res K s f with
  | none => none
  | some x => if x.1 = 0 then (if x.2.2 = 0 then g k 0 K x.2.1 x.2.2 else some x) else some x
def gw_tp (T : mw_A) (g : gw_G) (k res : Int32) (K : Nat → Int32) (s f : Int32) : Option gw_V := match g k res K s f with
  | none => none
  | some x => if x.1 = 2 then (if gi k 2600 = true then some (0, x.2.1 &&& (T 25 k.toNatClampNeg ^^^ (-1)), x.2.2) else none) else if 2 ≤ x.1 then some (x.1 - 1, x.2) else some x
def gw_lc (T : mw_A) (f : mw_F) (g : gw_G) (p res : Int32) (K : Nat → Int32) (s fl : Int32) : Option gw_V := match mw_lk T f p res K with
  | none => none
  | some K1 => if K1 (T 21 p.toNatClampNeg).toNatClampNeg = 0 then some (0, s, 2) else g (T 23 p.toNatClampNeg) res K1 s fl
def gw_sl (g : gw_G) (T : mw_A) (K : Nat → Int32) : Nat → Int32 → Int32 → Int32 → Int32 → Option gw_V
  | 0, _, _, _, _ => none
  | n + 1, k, c, s, f => if k = -1 then some (c, s, f) else if c = 0 then (if f = 0 then (match g k 0 K s f with
      | none => none
      | some x => if gi k 2600 = true then gw_sl g T K n (T 24 k.toNatClampNeg) x.1 x.2.1 x.2.2 else none) else some (c, s, f)) else some (c, s, f)
def gw_sq (T : mw_A) (S : Int32) (g : gw_G) (p res : Int32) (K : Nat → Int32) (s f : Int32) : Option gw_V := if gi p 2600 = true then (match mw_fo T S res 2601 (T 23 p.toNatClampNeg) with
  | none => none
  | some k => match g k res K s f with
    | none => none
    | some x => if gi k 2600 = true then gw_sl g T K 2601 (T 24 k.toNatClampNeg) x.1 x.2.1 x.2.2 else none) else none
def gw_pl (g : gw_G) (T : mw_A) (S res : Int32) (K : Nat → Int32) : Nat → Int32 → Int32 → Int32 → Int32 → Option gw_V
  | 0, _, _, _, _ => none
  | n + 1, k, c, s, f => if k = -1 then some (c, s, f) else if res = 0 then (match g k res K s f with
      | none => none
      | some x => if gi k 2600 = true then (if x.1 ≤ c then gw_pl g T S res K n (T 24 k.toNatClampNeg) c x.2.1 x.2.2 else gw_pl g T S res K n (T 24 k.toNatClampNeg) x.1 x.2.1 x.2.2) else none)
    else if gi k 2600 = true then (if T 25 k.toNatClampNeg &&& S = 0 then (if (0 : Int32) ≤ c then gw_pl g T S res K n (T 24 k.toNatClampNeg) c s f else gw_pl g T S res K n (T 24 k.toNatClampNeg) 0 s f) else (match g k res K s f with
      | none => none
      | some x => if x.1 ≤ c then gw_pl g T S res K n (T 24 k.toNatClampNeg) c x.2.1 x.2.2 else gw_pl g T S res K n (T 24 k.toNatClampNeg) x.1 x.2.1 x.2.2)) else none
def gw_pr (T : mw_A) (S : Int32) (g : gw_G) (p res : Int32) (K : Nat → Int32) (s f : Int32) : Option gw_V := if gi p 2600 = true then gw_pl g T S res K 2601 (T 23 p.toNatClampNeg) 0 s f else none
def gw_go (T : mw_A) (S : Int32) (f : mw_F) (g : gw_G) (p res : Int32) (K : Nat → Int32) (s fl : Int32) : Option gw_V :=
  if T 20 p.toNatClampNeg = 0 then some (0, s, fl)
  else if T 20 p.toNatClampNeg = 1 then (if res = 0 then some (1, s ||| T 25 p.toNatClampNeg, fl) else some (0, s, fl))
  else if T 20 p.toNatClampNeg = 2 then some (0, s, fl)
  else if T 20 p.toNatClampNeg = 3 then (if res = 0 then (if gi (T 21 p.toNatClampNeg) 26 = true then (match mw_ch T S p (K (T 21 p.toNatClampNeg).toNatClampNeg) with
      | none => none
      | some q => g q res K s fl) else none) else (match mw_ch T S p 0 with
      | none => none
      | some q => g q res K s fl))
  else if T 20 p.toNatClampNeg = 4 then gw_lp g (T 23 p.toNatClampNeg) res K s fl
  else if T 20 p.toNatClampNeg = 5 then (if res = 0 then g (T 23 p.toNatClampNeg) res K s fl else if gi (T 21 p.toNatClampNeg) 26 = true then (if K (T 21 p.toNatClampNeg).toNatClampNeg = 1 then some (1, s ||| (T 25 p.toNatClampNeg &&& S), fl) else g (T 23 p.toNatClampNeg) res K s fl) else none)
  else if T 20 p.toNatClampNeg = 6 then gw_tp T g (T 23 p.toNatClampNeg) res K s fl
  else if T 20 p.toNatClampNeg = 7 then some (T 22 p.toNatClampNeg, s, fl)
  else if T 20 p.toNatClampNeg = 8 then gw_lc T f g p res K s fl
  else if T 20 p.toNatClampNeg = 9 then gw_sq T S g p res K s fl
  else gw_pr T S g p res K s fl
def gw_IH (l : Launch) (F : gx_F) (a : Nat) (A : Nat → Nat) (D : Nat) (T : mw_A) (S : Int32) (g : gw_G) : Prop :=
  ∀ (dd : Nat) (p res : Int32) (v : gw_V) (σ : gm_S), D ≤ dd → (∀ k, 20 ≤ k → k ≤ 25 → σ.2 k = T k) → σ.1 39 = S → g p res (σ.2 38) (σ.1 41) (σ.1 40) = some v → gm_Has l F dd m_Md_go a A [.int p, .int res] σ (fun w σ' => w = some (.int v.1) ∧ σ' = gw_st σ v.2.1 v.2.2)
theorem gw_sl_c {T U : mw_A} (h : ∀ k, 20 ≤ k → k ≤ 25 → U k = T k) : (fun g => gw_sl g T) = (fun g => gw_sl g U) := by
  funext g K n
  induction n with
  | zero => rfl
  | succ n ih =>
    funext k c s f
    simp only [gw_sl, ih, h 24 (by decide) (by decide)]
theorem gw_pl_c {T U : mw_A} (h : ∀ k, 20 ≤ k → k ≤ 25 → U k = T k) : (fun g => gw_pl g T) = (fun g => gw_pl g U) := by
  funext g S res K n
  induction n with
  | zero => rfl
  | succ n ih =>
    funext k c s f
    simp only [gw_pl, ih, h 24 (by decide) (by decide), h 25 (by decide) (by decide)]
section MD7
variable {l : Launch} {F : gx_F} {d D : Nat} {a : Nat} {A : Nat → Nat} {σ : gm_S} {T : mw_A} {S : Int32} {f : mw_F} {g : gw_G}
theorem c_Md_goLoop (ig : gw_IH l F a A D T S g) {dd : Nat} {k res : Int32} {v : gw_V} (hD : D + 1 ≤ dd) (h3 : 4 ≤ dd) (hT : ∀ k, 20 ≤ k → k ≤ 25 → σ.2 k = T k) (hS : σ.1 39 = S) (hp : gw_lp g k res (σ.2 38) (σ.1 41) (σ.1 40) = some v) : gm_Has l F dd m_Md_goLoop a A [.int k, .int res] σ (fun w σ' => w = some (.int v.1) ∧ σ' = gw_st σ v.2.1 v.2.2) := by
  obtain ⟨d, rfl⟩ : ∃ d, dd = d + 4 := ⟨dd - 4, by omega⟩
  refine gm_meth (k := 1) (L := [some (.ref a), some (.int k), some (.int res), none]) pn_Md rfl (Nat.le_of_ble_eq_true rfl) ?_
  unfold gw_lp at hp
  cases hx : g k res (σ.2 38) (σ.1 41) (σ.1 40) with
  | none =>
    rw [hx] at hp
    cases hp
  | some x =>
    rw [hx] at hp
    try dsimp only at hp
    by_cases h1 : x.1 = 0
    · rw [if_pos h1] at hp
      by_cases h2 : x.2.2 = 0
      · rw [if_pos h2] at hp
        refine gm_p k_Md_goLoop rfl rfl ?_
        refine gm_p k_Md_goLoop rfl rfl ?_
        refine gm_p k_Md_goLoop rfl rfl ?_
        refine gm_ivE (M' := m_Md_go) (As := [.int k, .int res]) k_Md_goLoop rfl rfl rfl rfl rfl rfl (Nat.le_of_ble_eq_true rfl) (ig _ _ _ _ _ (by omega) hT hS hx) ?_
        refine gm_p k_Md_goLoop rfl rfl ?_
        refine gm_p k_Md_goLoop rfl rfl ?_
        refine gm_if k_Md_goLoop rfl rfl rfl (fun hc8 => ?_) (fun hc8 => ?_)
        · (try dsimp only at hc8)
          (exfalso; simp_all [gw_r40, gw_r41, gw_r39, gw_rS]; done)
        · (try dsimp only at hc8)
          refine gm_p k_Md_goLoop rfl rfl ?_
          refine gm_g k_Md_goLoop rfl rfl rfl rfl ?_
          refine gm_if k_Md_goLoop rfl rfl rfl (fun hc15 => ?_) (fun hc15 => ?_)
          · (try dsimp only at hc15)
            (exfalso; simp_all [gw_r40, gw_r41, gw_r39, gw_rS]; done)
          · (try dsimp only at hc15)
            refine gm_p k_Md_goLoop rfl rfl ?_
            refine gm_p k_Md_goLoop rfl rfl ?_
            refine gm_p k_Md_goLoop rfl rfl ?_
            refine gm_ivE (M' := m_Md_go) (As := [.int k, .int 0]) k_Md_goLoop rfl rfl rfl rfl rfl rfl (Nat.le_of_ble_eq_true rfl) (ig _ _ _ _ _ (by omega) hT hS hp) ?_
            refine gm_j k_Md_goLoop rfl rfl ?_
            exact gm_ret (v := some (.int _)) k_Md_goLoop rfl rfl trivial rfl ⟨rfl, gw_tr⟩
      · rw [if_neg h2] at hp
        cases hp
        refine gm_p k_Md_goLoop rfl rfl ?_
        refine gm_p k_Md_goLoop rfl rfl ?_
        refine gm_p k_Md_goLoop rfl rfl ?_
        refine gm_ivE (M' := m_Md_go) (As := [.int k, .int res]) k_Md_goLoop rfl rfl rfl rfl rfl rfl (Nat.le_of_ble_eq_true rfl) (ig _ _ _ _ _ (by omega) hT hS hx) ?_
        refine gm_p k_Md_goLoop rfl rfl ?_
        refine gm_p k_Md_goLoop rfl rfl ?_
        refine gm_if k_Md_goLoop rfl rfl rfl (fun hc8 => ?_) (fun hc8 => ?_)
        · (try dsimp only at hc8)
          (exfalso; simp_all [gw_r40, gw_r41, gw_r39, gw_rS]; done)
        · (try dsimp only at hc8)
          refine gm_p k_Md_goLoop rfl rfl ?_
          refine gm_g k_Md_goLoop rfl rfl rfl rfl ?_
          refine gm_if k_Md_goLoop rfl rfl rfl (fun hc15 => ?_) (fun hc15 => ?_)
          · (try dsimp only at hc15)
            refine gm_p k_Md_goLoop rfl rfl ?_
            exact gm_ret (v := some (.int _)) k_Md_goLoop rfl rfl trivial rfl ⟨rfl, rfl⟩
          · (try dsimp only at hc15)
            (exfalso; simp_all [gw_r40, gw_r41, gw_r39, gw_rS]; done)
    · rw [if_neg h1] at hp
      cases hp
      refine gm_p k_Md_goLoop rfl rfl ?_
      refine gm_p k_Md_goLoop rfl rfl ?_
      refine gm_p k_Md_goLoop rfl rfl ?_
      refine gm_ivE (M' := m_Md_go) (As := [.int k, .int res]) k_Md_goLoop rfl rfl rfl rfl rfl rfl (Nat.le_of_ble_eq_true rfl) (ig _ _ _ _ _ (by omega) hT hS hx) ?_
      refine gm_p k_Md_goLoop rfl rfl ?_
      refine gm_p k_Md_goLoop rfl rfl ?_
      refine gm_if k_Md_goLoop rfl rfl rfl (fun hc8 => ?_) (fun hc8 => ?_)
      · (try dsimp only at hc8)
        refine gm_p k_Md_goLoop rfl rfl ?_
        exact gm_ret (v := some (.int _)) k_Md_goLoop rfl rfl trivial rfl ⟨rfl, rfl⟩
      · (try dsimp only at hc8)
        (exfalso; simp_all [gw_r40, gw_r41, gw_r39, gw_rS]; done)
theorem c_Md_goTrap (ig : gw_IH l F a A D T S g) {dd : Nat} {k res : Int32} {v : gw_V} (hD : D + 1 ≤ dd) (h3 : 4 ≤ dd) (hT : ∀ k, 20 ≤ k → k ≤ 25 → σ.2 k = T k) (hS : σ.1 39 = S) (hp : gw_tp T g k res (σ.2 38) (σ.1 41) (σ.1 40) = some v) : gm_Has l F dd m_Md_goTrap a A [.int k, .int res] σ (fun w σ' => w = some (.int v.1) ∧ σ' = gw_st σ v.2.1 v.2.2) := by
  obtain ⟨d, rfl⟩ : ∃ d, dd = d + 4 := ⟨dd - 4, by omega⟩
  refine gm_meth (k := 1) (L := [some (.ref a), some (.int k), some (.int res), none]) pn_Md rfl (Nat.le_of_ble_eq_true rfl) ?_
  unfold gw_tp at hp
  rw [← hT 25 (by decide) (by decide)] at hp
  cases hx : g k res (σ.2 38) (σ.1 41) (σ.1 40) with
  | none =>
    rw [hx] at hp
    cases hp
  | some x =>
    rw [hx] at hp
    try dsimp only at hp
    by_cases h1 : x.1 = 2
    · rw [if_pos h1] at hp
      by_cases g1 : gi k 2600 = true
      · rw [if_pos g1] at hp
        cases hp
        refine gm_p k_Md_goTrap rfl rfl ?_
        refine gm_p k_Md_goTrap rfl rfl ?_
        refine gm_p k_Md_goTrap rfl rfl ?_
        refine gm_ivE (M' := m_Md_go) (As := [.int k, .int res]) k_Md_goTrap rfl rfl rfl rfl rfl rfl (Nat.le_of_ble_eq_true rfl) (ig _ _ _ _ _ (by omega) hT hS hx) ?_
        refine gm_p k_Md_goTrap rfl rfl ?_
        refine gm_p k_Md_goTrap rfl rfl ?_
        refine gm_p k_Md_goTrap rfl rfl ?_
        refine gm_ic k_Md_goTrap rfl rfl rfl (fun hc9 => ?_) (fun hc9 => ?_)
        · (try dsimp only at hc9)
          (exfalso; simp_all [gw_r40, gw_r41, gw_r39, gw_rS]; done)
        · (try dsimp only at hc9)
          refine gm_p k_Md_goTrap rfl rfl ?_
          refine gm_p k_Md_goTrap rfl rfl ?_
          refine gm_g k_Md_goTrap rfl rfl rfl rfl ?_
          refine gm_p k_Md_goTrap rfl rfl ?_
          refine gm_g k_Md_goTrap rfl rfl rfl rfl ?_
          refine gm_p k_Md_goTrap rfl rfl ?_
          refine gm_ld k_Md_goTrap rfl rfl (gi_in (by assumption)) (by decide) ?_
          refine gm_p k_Md_goTrap rfl rfl ?_
          refine gm_p k_Md_goTrap rfl rfl ?_
          refine gm_p k_Md_goTrap rfl rfl ?_
          refine gm_pt k_Md_goTrap rfl rfl rfl trivial (by decide) rfl ?_
          refine gm_p k_Md_goTrap rfl rfl ?_
          refine gm_p k_Md_goTrap rfl rfl ?_
          refine gm_ic k_Md_goTrap rfl rfl rfl (fun hc31 => ?_) (fun hc31 => ?_)
          · (try dsimp only at hc31)
            refine gm_p k_Md_goTrap rfl rfl ?_
            refine gm_p k_Md_goTrap rfl rfl ?_
            refine gm_ic k_Md_goTrap rfl rfl rfl (fun hc40 => ?_) (fun hc40 => ?_)
            · (try dsimp only at hc40)
              (exfalso; simp_all [gw_r40, gw_r41, gw_r39, gw_rS]; done)
            · (try dsimp only at hc40)
              refine gm_p k_Md_goTrap rfl rfl ?_
              refine gm_j k_Md_goTrap rfl rfl ?_
              exact gm_ret (v := some (.int _)) k_Md_goTrap rfl rfl trivial rfl ⟨rfl, gw_f41⟩
          · (try dsimp only at hc31)
            (exfalso; simp_all [gw_r40, gw_r41, gw_r39, gw_rS]; done)
      · rw [if_neg g1] at hp
        cases hp
    · rw [if_neg h1] at hp
      by_cases h2 : 2 ≤ x.1
      · rw [if_pos h2] at hp
        cases hp
        refine gm_p k_Md_goTrap rfl rfl ?_
        refine gm_p k_Md_goTrap rfl rfl ?_
        refine gm_p k_Md_goTrap rfl rfl ?_
        refine gm_ivE (M' := m_Md_go) (As := [.int k, .int res]) k_Md_goTrap rfl rfl rfl rfl rfl rfl (Nat.le_of_ble_eq_true rfl) (ig _ _ _ _ _ (by omega) hT hS hx) ?_
        refine gm_p k_Md_goTrap rfl rfl ?_
        refine gm_p k_Md_goTrap rfl rfl ?_
        refine gm_p k_Md_goTrap rfl rfl ?_
        refine gm_ic k_Md_goTrap rfl rfl rfl (fun hc9 => ?_) (fun hc9 => ?_)
        · (try dsimp only at hc9)
          refine gm_p k_Md_goTrap rfl rfl ?_
          refine gm_p k_Md_goTrap rfl rfl ?_
          refine gm_ic k_Md_goTrap rfl rfl rfl (fun hc31 => ?_) (fun hc31 => ?_)
          · (try dsimp only at hc31)
            refine gm_p k_Md_goTrap rfl rfl ?_
            refine gm_p k_Md_goTrap rfl rfl ?_
            refine gm_ic k_Md_goTrap rfl rfl rfl (fun hc40 => ?_) (fun hc40 => ?_)
            · (try dsimp only at hc40)
              refine gm_p k_Md_goTrap rfl rfl ?_
              refine gm_p k_Md_goTrap rfl rfl ?_
              refine gm_p k_Md_goTrap rfl rfl ?_
              exact gm_ret (v := some (.int _)) k_Md_goTrap rfl rfl trivial rfl ⟨rfl, rfl⟩
            · (try dsimp only at hc40)
              (exfalso; simp_all [gw_r40, gw_r41, gw_r39, gw_rS]; done)
          · (try dsimp only at hc31)
            (exfalso; simp_all [gw_r40, gw_r41, gw_r39, gw_rS]; done)
        · (try dsimp only at hc9)
          (exfalso; simp_all [gw_r40, gw_r41, gw_r39, gw_rS]; done)
      · rw [if_neg h2] at hp
        cases hp
        refine gm_p k_Md_goTrap rfl rfl ?_
        refine gm_p k_Md_goTrap rfl rfl ?_
        refine gm_p k_Md_goTrap rfl rfl ?_
        refine gm_ivE (M' := m_Md_go) (As := [.int k, .int res]) k_Md_goTrap rfl rfl rfl rfl rfl rfl (Nat.le_of_ble_eq_true rfl) (ig _ _ _ _ _ (by omega) hT hS hx) ?_
        refine gm_p k_Md_goTrap rfl rfl ?_
        refine gm_p k_Md_goTrap rfl rfl ?_
        refine gm_p k_Md_goTrap rfl rfl ?_
        refine gm_ic k_Md_goTrap rfl rfl rfl (fun hc9 => ?_) (fun hc9 => ?_)
        · (try dsimp only at hc9)
          refine gm_p k_Md_goTrap rfl rfl ?_
          refine gm_p k_Md_goTrap rfl rfl ?_
          refine gm_ic k_Md_goTrap rfl rfl rfl (fun hc31 => ?_) (fun hc31 => ?_)
          · (try dsimp only at hc31)
            (exfalso; simp_all [gw_r40, gw_r41, gw_r39, gw_rS]; done)
          · (try dsimp only at hc31)
            refine gm_p k_Md_goTrap rfl rfl ?_
            refine gm_j k_Md_goTrap rfl rfl ?_
            exact gm_ret (v := some (.int _)) k_Md_goTrap rfl rfl trivial rfl ⟨rfl, rfl⟩
        · (try dsimp only at hc9)
          (exfalso; simp_all [gw_r40, gw_r41, gw_r39, gw_rS]; done)
theorem c_Md_goLocal (ih : mw_IH l F a A D T S f) (ig : gw_IH l F a A D T S g) {dd : Nat} {p res : Int32} {v : gw_V} (hD : D + 2 ≤ dd) (h3 : 5 ≤ dd) (hT : ∀ k, 20 ≤ k → k ≤ 25 → σ.2 k = T k) (hS : σ.1 39 = S) (hp : gw_lc T f g p res (σ.2 38) (σ.1 41) (σ.1 40) = some v) : gm_Has l F dd m_Md_goLocal a A [.int p, .int res] σ (fun w σ' => w = some (.int v.1) ∧ σ' = gw_st σ v.2.1 v.2.2) := by
  obtain ⟨d, rfl⟩ : ∃ d, dd = d + 5 := ⟨dd - 5, by omega⟩
  refine gm_meth (k := 3) (L := [some (.ref a), some (.int p), some (.int res), none, none, none]) pn_Md rfl (Nat.le_of_ble_eq_true rfl) ?_
  unfold gw_lc at hp
  cases hk : mw_lk T f p res (σ.2 38) with
  | none =>
    rw [hk] at hp
    cases hp
  | some K1 =>
    rw [hk] at hp
    try dsimp only at hp
    by_cases h1 : K1 (T 21 p.toNatClampNeg).toNatClampNeg = 0
    · rw [if_pos h1] at hp
      obtain ⟨g1, g2, w, hw⟩ := mw_lk_g hk
      have hlk := c_Md_look ih (dd := d + 4) (by omega) (by omega) hT hS hk
      rw [← hT 21 (by decide) (by decide)] at g2 hw h1
      subst hw
      cases hp
      refine gm_p k_Md_goLocal rfl rfl ?_
      refine gm_g k_Md_goLocal rfl rfl rfl rfl ?_
      refine gm_p k_Md_goLocal rfl rfl ?_
      refine gm_ld k_Md_goLocal rfl rfl (gi_in (by assumption)) (by decide) ?_
      refine gm_p k_Md_goLocal rfl rfl ?_
      refine gm_p k_Md_goLocal rfl rfl ?_
      refine gm_g k_Md_goLocal rfl rfl rfl rfl ?_
      refine gm_p k_Md_goLocal rfl rfl ?_
      refine gm_ld k_Md_goLocal rfl rfl (gi_in (by assumption)) (by decide) ?_
      refine gm_p k_Md_goLocal rfl rfl ?_
      refine gm_p k_Md_goLocal rfl rfl ?_
      refine gm_p k_Md_goLocal rfl rfl ?_
      refine gm_p k_Md_goLocal rfl rfl ?_
      refine gm_ivV (M' := m_Md_look) (As := [.int p, .int res]) k_Md_goLocal rfl rfl rfl rfl rfl rfl (Nat.le_of_ble_eq_true rfl) hlk ?_
      refine gm_p k_Md_goLocal rfl rfl ?_
      refine gm_g k_Md_goLocal rfl rfl rfl rfl ?_
      refine gm_p k_Md_goLocal rfl rfl ?_
      refine gm_ld k_Md_goLocal rfl rfl (gi_in (by assumption)) (by decide) ?_
      refine gm_if k_Md_goLocal rfl rfl rfl (fun hc27 => ?_) (fun hc27 => ?_)
      · (try dsimp only at hc27)
        (exfalso; simp_all [gm_up_same, upd_eq]; done)
      · (try dsimp only at hc27)
        refine gm_p k_Md_goLocal rfl rfl ?_
        refine gm_p k_Md_goLocal rfl rfl ?_
        refine gm_pt k_Md_goLocal rfl rfl rfl trivial (by decide) rfl ?_
        refine gm_p k_Md_goLocal rfl rfl ?_
        refine gm_g k_Md_goLocal rfl rfl rfl rfl ?_
        refine gm_p k_Md_goLocal rfl rfl ?_
        refine gm_ld k_Md_goLocal rfl rfl (gi_in (by assumption)) (by decide) ?_
        refine gm_if k_Md_goLocal rfl rfl rfl (fun hc41 => ?_) (fun hc41 => ?_)
        · (try dsimp only at hc41)
          (exfalso; simp_all [gm_up_same, upd_eq]; done)
        · (try dsimp only at hc41)
          refine gm_p k_Md_goLocal rfl rfl ?_
          refine gm_j k_Md_goLocal rfl rfl ?_
          refine gm_p k_Md_goLocal rfl rfl ?_
          refine gm_p k_Md_goLocal rfl rfl ?_
          refine gm_g k_Md_goLocal rfl rfl rfl rfl ?_
          refine gm_p k_Md_goLocal rfl rfl ?_
          refine gm_p k_Md_goLocal rfl rfl ?_
          refine gm_sto k_Md_goLocal rfl rfl (gi_in (by assumption)) (by decide) ?_
          refine gm_p k_Md_goLocal rfl rfl ?_
          exact gm_ret (v := some (.int _)) k_Md_goLocal rfl rfl trivial rfl ⟨rfl, (by unfold gw_st; simp only [gm_up_same, gm_up_up, upd_upd, upd_self, gm_up_id])⟩
    · rw [if_neg h1] at hp
      obtain ⟨g1, g2, w, hw⟩ := mw_lk_g hk
      have hlk := c_Md_look ih (dd := d + 4) (by omega) (by omega) hT hS hk
      rw [← hT 21 (by decide) (by decide)] at g2 hw h1
      rw [← hT 23 (by decide) (by decide)] at hp
      subst hw
      refine gm_p k_Md_goLocal rfl rfl ?_
      refine gm_g k_Md_goLocal rfl rfl rfl rfl ?_
      refine gm_p k_Md_goLocal rfl rfl ?_
      refine gm_ld k_Md_goLocal rfl rfl (gi_in (by assumption)) (by decide) ?_
      refine gm_p k_Md_goLocal rfl rfl ?_
      refine gm_p k_Md_goLocal rfl rfl ?_
      refine gm_g k_Md_goLocal rfl rfl rfl rfl ?_
      refine gm_p k_Md_goLocal rfl rfl ?_
      refine gm_ld k_Md_goLocal rfl rfl (gi_in (by assumption)) (by decide) ?_
      refine gm_p k_Md_goLocal rfl rfl ?_
      refine gm_p k_Md_goLocal rfl rfl ?_
      refine gm_p k_Md_goLocal rfl rfl ?_
      refine gm_p k_Md_goLocal rfl rfl ?_
      refine gm_ivV (M' := m_Md_look) (As := [.int p, .int res]) k_Md_goLocal rfl rfl rfl rfl rfl rfl (Nat.le_of_ble_eq_true rfl) hlk ?_
      refine gm_p k_Md_goLocal rfl rfl ?_
      refine gm_g k_Md_goLocal rfl rfl rfl rfl ?_
      refine gm_p k_Md_goLocal rfl rfl ?_
      refine gm_ld k_Md_goLocal rfl rfl (gi_in (by assumption)) (by decide) ?_
      refine gm_if k_Md_goLocal rfl rfl rfl (fun hc27 => ?_) (fun hc27 => ?_)
      · (try dsimp only at hc27)
        refine gm_p k_Md_goLocal rfl rfl ?_
        refine gm_g k_Md_goLocal rfl rfl rfl rfl ?_
        refine gm_p k_Md_goLocal rfl rfl ?_
        refine gm_ld k_Md_goLocal rfl rfl (gi_in (by assumption)) (by decide) ?_
        refine gm_if k_Md_goLocal rfl rfl rfl (fun hc41 => ?_) (fun hc41 => ?_)
        · (try dsimp only at hc41)
          refine gm_p k_Md_goLocal rfl rfl ?_
          refine gm_p k_Md_goLocal rfl rfl ?_
          refine gm_g k_Md_goLocal rfl rfl rfl rfl ?_
          refine gm_p k_Md_goLocal rfl rfl ?_
          refine gm_ld k_Md_goLocal rfl rfl (gi_in (by assumption)) (by decide) ?_
          refine gm_p k_Md_goLocal rfl rfl ?_
          refine gm_ivE (M' := m_Md_go) (As := [.int (σ.2 23 p.toNatClampNeg), .int res]) k_Md_goLocal rfl rfl rfl rfl rfl rfl (Nat.le_of_ble_eq_true rfl) (ig _ _ _ _ _ (by omega) (mw_hT hT) hS hp) ?_
          refine gm_p k_Md_goLocal rfl rfl ?_
          refine gm_p k_Md_goLocal rfl rfl ?_
          refine gm_g k_Md_goLocal rfl rfl rfl rfl ?_
          refine gm_p k_Md_goLocal rfl rfl ?_
          refine gm_p k_Md_goLocal rfl rfl ?_
          refine gm_sto k_Md_goLocal rfl rfl (gi_in (by assumption)) (by decide) ?_
          refine gm_p k_Md_goLocal rfl rfl ?_
          exact gm_ret (v := some (.int _)) k_Md_goLocal rfl rfl trivial rfl ⟨rfl, (by unfold gw_st; simp only [gm_up_same, gm_up_up, upd_upd, upd_self, gm_up_id])⟩
        · (try dsimp only at hc41)
          (exfalso; simp_all [gm_up_same, upd_eq]; done)
      · (try dsimp only at hc27)
        (exfalso; simp_all [gm_up_same, upd_eq]; done)
theorem c_Md_goSequence (ig : gw_IH l F a A D T S g) {dd : Nat} {p res : Int32} {v : gw_V} (hD : D + 1 ≤ dd) (h3 : 4 ≤ dd) (hT : ∀ k, 20 ≤ k → k ≤ 25 → σ.2 k = T k) (hS : σ.1 39 = S) (hp : gw_sq T S g p res (σ.2 38) (σ.1 41) (σ.1 40) = some v) : gm_Has l F dd m_Md_goSequence a A [.int p, .int res] σ (fun w σ' => w = some (.int v.1) ∧ σ' = gw_st σ v.2.1 v.2.2) := by
  obtain ⟨d, rfl⟩ : ∃ d, dd = d + 4 := ⟨dd - 4, by omega⟩
  have loop : ∀ (n : Nat) (k c s fl : Int32), gw_sl g σ.2 (σ.2 38) n k c s fl = some v → gm_Go l F (d + 4) m_Md_goSequence a A 22 ([some (.ref a), some (.int p), some (.int res), some (.int k), some (.int c)]) [] (gw_st σ s fl) (fun w σ' => w = some (.int v.1) ∧ σ' = gw_st σ v.2.1 v.2.2) := by
    intro n
    induction n with
    | zero => intro k c s fl hk; cases hk
    | succ n ihn =>
      intro k c s fl hk
      unfold gw_sl at hk
      try dsimp only at hk
      by_cases h1 : k = -1
      · rw [if_pos h1] at hk
        cases hk
        refine gm_p k_Md_goSequence rfl rfl ?_
        refine gm_p k_Md_goSequence rfl rfl ?_
        refine gm_ic k_Md_goSequence rfl rfl rfl (fun hc24 => ?_) (fun hc24 => ?_)
        · (try dsimp only at hc24)
          refine gm_p k_Md_goSequence rfl rfl ?_
          exact gm_ret (v := some (.int _)) k_Md_goSequence rfl rfl trivial rfl ⟨rfl, rfl⟩
        · (try dsimp only at hc24)
          (exfalso; simp_all [gw_r40, gw_r41, gw_r39, gw_rS]; done)
      · rw [if_neg h1] at hk
        by_cases h2 : c = 0
        · rw [if_pos h2] at hk
          by_cases h4 : fl = 0
          · rw [if_pos h4] at hk
            cases hx : g k 0 (σ.2 38) s fl with
            | none =>
              rw [hx] at hk
              cases hk
            | some x =>
              rw [hx] at hk
              try dsimp only at hk
              by_cases g1 : gi k 2600 = true
              · rw [if_pos g1] at hk
                refine gm_p k_Md_goSequence rfl rfl ?_
                refine gm_p k_Md_goSequence rfl rfl ?_
                refine gm_ic k_Md_goSequence rfl rfl rfl (fun hc24 => ?_) (fun hc24 => ?_)
                · (try dsimp only at hc24)
                  (exfalso; simp_all [gw_r40, gw_r41, gw_r39, gw_rS]; done)
                · (try dsimp only at hc24)
                  refine gm_p k_Md_goSequence rfl rfl ?_
                  refine gm_if k_Md_goSequence rfl rfl rfl (fun hc29 => ?_) (fun hc29 => ?_)
                  · (try dsimp only at hc29)
                    (exfalso; simp_all [gw_r40, gw_r41, gw_r39, gw_rS]; done)
                  · (try dsimp only at hc29)
                    refine gm_p k_Md_goSequence rfl rfl ?_
                    refine gm_g k_Md_goSequence rfl rfl rfl rfl ?_
                    refine gm_if k_Md_goSequence rfl rfl rfl (fun hc36 => ?_) (fun hc36 => ?_)
                    · (try dsimp only at hc36)
                      (exfalso; simp_all [gw_r40, gw_r41, gw_r39, gw_rS]; done)
                    · (try dsimp only at hc36)
                      refine gm_p k_Md_goSequence rfl rfl ?_
                      refine gm_p k_Md_goSequence rfl rfl ?_
                      refine gm_p k_Md_goSequence rfl rfl ?_
                      refine gm_ivE (M' := m_Md_go) (As := [.int k, .int 0]) k_Md_goSequence rfl rfl rfl rfl rfl rfl (Nat.le_of_ble_eq_true rfl) (ig _ _ _ _ _ (by omega) hT hS hx) ?_
                      simp only [gw_tr]
                      refine gm_p k_Md_goSequence rfl rfl ?_
                      refine gm_p k_Md_goSequence rfl rfl ?_
                      refine gm_g k_Md_goSequence rfl rfl rfl rfl ?_
                      refine gm_p k_Md_goSequence rfl rfl ?_
                      refine gm_ld k_Md_goSequence rfl rfl (gi_in (by assumption)) (by decide) ?_
                      refine gm_p k_Md_goSequence rfl rfl ?_
                      refine gm_j k_Md_goSequence rfl rfl ?_
                      exact ihn _ _ _ _ hk
              · rw [if_neg g1] at hk
                cases hk
          · rw [if_neg h4] at hk
            cases hk
            refine gm_p k_Md_goSequence rfl rfl ?_
            refine gm_p k_Md_goSequence rfl rfl ?_
            refine gm_ic k_Md_goSequence rfl rfl rfl (fun hc24 => ?_) (fun hc24 => ?_)
            · (try dsimp only at hc24)
              (exfalso; simp_all [gw_r40, gw_r41, gw_r39, gw_rS]; done)
            · (try dsimp only at hc24)
              refine gm_p k_Md_goSequence rfl rfl ?_
              refine gm_if k_Md_goSequence rfl rfl rfl (fun hc29 => ?_) (fun hc29 => ?_)
              · (try dsimp only at hc29)
                (exfalso; simp_all [gw_r40, gw_r41, gw_r39, gw_rS]; done)
              · (try dsimp only at hc29)
                refine gm_p k_Md_goSequence rfl rfl ?_
                refine gm_g k_Md_goSequence rfl rfl rfl rfl ?_
                refine gm_if k_Md_goSequence rfl rfl rfl (fun hc36 => ?_) (fun hc36 => ?_)
                · (try dsimp only at hc36)
                  refine gm_p k_Md_goSequence rfl rfl ?_
                  exact gm_ret (v := some (.int _)) k_Md_goSequence rfl rfl trivial rfl ⟨rfl, rfl⟩
                · (try dsimp only at hc36)
                  (exfalso; simp_all [gw_r40, gw_r41, gw_r39, gw_rS]; done)
        · rw [if_neg h2] at hk
          cases hk
          refine gm_p k_Md_goSequence rfl rfl ?_
          refine gm_p k_Md_goSequence rfl rfl ?_
          refine gm_ic k_Md_goSequence rfl rfl rfl (fun hc24 => ?_) (fun hc24 => ?_)
          · (try dsimp only at hc24)
            (exfalso; simp_all [gw_r40, gw_r41, gw_r39, gw_rS]; done)
          · (try dsimp only at hc24)
            refine gm_p k_Md_goSequence rfl rfl ?_
            refine gm_if k_Md_goSequence rfl rfl rfl (fun hc29 => ?_) (fun hc29 => ?_)
            · (try dsimp only at hc29)
              refine gm_p k_Md_goSequence rfl rfl ?_
              exact gm_ret (v := some (.int _)) k_Md_goSequence rfl rfl trivial rfl ⟨rfl, rfl⟩
            · (try dsimp only at hc29)
              (exfalso; simp_all [gw_r40, gw_r41, gw_r39, gw_rS]; done)
  refine gm_meth (k := 2) (L := [some (.ref a), some (.int p), some (.int res), none, none]) pn_Md rfl (Nat.le_of_ble_eq_true rfl) ?_
  unfold gw_sq at hp
  rw [mw_fo_c hT, ← hT 23 (by decide) (by decide), ← hT 24 (by decide) (by decide), show gw_sl g T = gw_sl g σ.2 from congrFun (gw_sl_c hT) _] at hp
  by_cases g1 : gi p 2600 = true
  · rw [if_pos g1] at hp
    cases hk : mw_fo σ.2 S res 2601 (σ.2 23 p.toNatClampNeg) with
    | none =>
      rw [hk] at hp
      cases hp
    | some k =>
      rw [hk] at hp
      try dsimp only at hp
      cases hx : g k res (σ.2 38) (σ.1 41) (σ.1 40) with
      | none =>
        rw [hx] at hp
        cases hp
      | some x =>
        rw [hx] at hp
        try dsimp only at hp
        by_cases g2 : gi k 2600 = true
        · rw [if_pos g2] at hp
          rw [← hS] at hk
          refine gm_p k_Md_goSequence rfl rfl ?_
          refine gm_p k_Md_goSequence rfl rfl ?_
          refine gm_p k_Md_goSequence rfl rfl ?_
          refine gm_ivE (M' := m_Md_firstOf) (As := [.int p, .int res]) k_Md_goSequence rfl rfl rfl rfl rfl rfl (Nat.le_of_ble_eq_true rfl) (c_Md_firstOf g1 hk) ?_
          refine gm_p k_Md_goSequence rfl rfl ?_
          refine gm_p k_Md_goSequence rfl rfl ?_
          refine gm_p k_Md_goSequence rfl rfl ?_
          refine gm_p k_Md_goSequence rfl rfl ?_
          refine gm_ivE (M' := m_Md_go) (As := [.int k, .int res]) k_Md_goSequence rfl rfl rfl rfl rfl rfl (Nat.le_of_ble_eq_true rfl) (ig _ _ _ _ _ (by omega) hT hS hx) ?_
          refine gm_p k_Md_goSequence rfl rfl ?_
          refine gm_p k_Md_goSequence rfl rfl ?_
          refine gm_g k_Md_goSequence rfl rfl rfl rfl ?_
          refine gm_p k_Md_goSequence rfl rfl ?_
          refine gm_ld k_Md_goSequence rfl rfl (gi_in (by assumption)) (by decide) ?_
          refine gm_p k_Md_goSequence rfl rfl ?_
          exact loop _ _ _ _ _ hp
        · rw [if_neg g2] at hp
          cases hp
  · rw [if_neg g1] at hp
    cases hp
theorem c_Md_goParallel (ig : gw_IH l F a A D T S g) {dd : Nat} {p res : Int32} {v : gw_V} (hD : D + 1 ≤ dd) (h3 : 4 ≤ dd) (hT : ∀ k, 20 ≤ k → k ≤ 25 → σ.2 k = T k) (hS : σ.1 39 = S) (hp : gw_pr T S g p res (σ.2 38) (σ.1 41) (σ.1 40) = some v) : gm_Has l F dd m_Md_goParallel a A [.int p, .int res] σ (fun w σ' => w = some (.int v.1) ∧ σ' = gw_st σ v.2.1 v.2.2) := by
  obtain ⟨d, rfl⟩ : ∃ d, dd = d + 4 := ⟨dd - 4, by omega⟩
  have loop : ∀ (n : Nat) (k c s fl : Int32), gw_pl g σ.2 S res (σ.2 38) n k c s fl = some v → gm_Go l F (d + 4) m_Md_goParallel a A 10 ([some (.ref a), some (.int p), some (.int res), some (.int c), some (.int k), none]) [] (gw_st σ s fl) (fun w σ' => w = some (.int v.1) ∧ σ' = gw_st σ v.2.1 v.2.2) ∧ ∀ y : Int32, gm_Go l F (d + 4) m_Md_goParallel a A 10 ([some (.ref a), some (.int p), some (.int res), some (.int c), some (.int k), some (.int y)]) [] (gw_st σ s fl) (fun w σ' => w = some (.int v.1) ∧ σ' = gw_st σ v.2.1 v.2.2) := by
    intro n
    induction n with
    | zero => intro k c s fl hk; cases hk
    | succ n ihn =>
      intro k c s fl hk
      unfold gw_pl at hk
      try dsimp only at hk
      refine ⟨?_, fun y => ?_⟩
      all_goals
        by_cases h1 : k = -1
        · rw [if_pos h1] at hk
          cases hk
          refine gm_p k_Md_goParallel rfl rfl ?_
          refine gm_p k_Md_goParallel rfl rfl ?_
          refine gm_ic k_Md_goParallel rfl rfl rfl (fun hc13 => ?_) (fun hc13 => ?_)
          · (try dsimp only at hc13)
            refine gm_p k_Md_goParallel rfl rfl ?_
            exact gm_ret (v := some (.int _)) k_Md_goParallel rfl rfl trivial rfl ⟨rfl, rfl⟩
          · (try dsimp only at hc13)
            (exfalso; simp_all [gw_r40, gw_r41, gw_r39, gw_rS]; done)
        · rw [if_neg h1] at hk
          by_cases h2 : res = 0
          · rw [if_pos h2] at hk
            cases hx : g k res (σ.2 38) s fl with
            | none =>
              rw [hx] at hk
              cases hk
            | some x =>
              rw [hx] at hk
              try dsimp only at hk
              by_cases g1 : gi k 2600 = true
              · rw [if_pos g1] at hk
                by_cases h4 : x.1 ≤ c
                · rw [if_pos h4] at hk
                  refine gm_p k_Md_goParallel rfl rfl ?_
                  refine gm_p k_Md_goParallel rfl rfl ?_
                  refine gm_ic k_Md_goParallel rfl rfl rfl (fun hc13 => ?_) (fun hc13 => ?_)
                  · (try dsimp only at hc13)
                    (exfalso; simp_all [gw_r40, gw_r41, gw_r39, gw_rS]; done)
                  · (try dsimp only at hc13)
                    refine gm_p k_Md_goParallel rfl rfl ?_
                    refine gm_if k_Md_goParallel rfl rfl rfl (fun hc17 => ?_) (fun hc17 => ?_)
                    · (try dsimp only at hc17)
                      refine gm_p k_Md_goParallel rfl rfl ?_
                      refine gm_p k_Md_goParallel rfl rfl ?_
                      refine gm_p k_Md_goParallel rfl rfl ?_
                      refine gm_ivE (M' := m_Md_go) (As := [.int k, .int res]) k_Md_goParallel rfl rfl rfl rfl rfl rfl (Nat.le_of_ble_eq_true rfl) (ig _ _ _ _ _ (by omega) hT hS hx) ?_
                      simp only [gw_tr]
                      refine gm_p k_Md_goParallel rfl rfl ?_
                      refine gm_p k_Md_goParallel rfl rfl ?_
                      refine gm_p k_Md_goParallel rfl rfl ?_
                      refine gm_ic k_Md_goParallel rfl rfl rfl (fun hc45 => ?_) (fun hc45 => ?_)
                      · (try dsimp only at hc45)
                        refine gm_p k_Md_goParallel rfl rfl ?_
                        refine gm_p k_Md_goParallel rfl rfl ?_
                        refine gm_p k_Md_goParallel rfl rfl ?_
                        refine gm_g k_Md_goParallel rfl rfl rfl rfl ?_
                        refine gm_p k_Md_goParallel rfl rfl ?_
                        refine gm_ld k_Md_goParallel rfl rfl (gi_in (by assumption)) (by decide) ?_
                        refine gm_p k_Md_goParallel rfl rfl ?_
                        refine gm_j k_Md_goParallel rfl rfl ?_
                        exact (ihn _ _ _ _ hk).2 _
                      · (try dsimp only at hc45)
                        (exfalso; simp_all [gw_r40, gw_r41, gw_r39, gw_rS]; done)
                    · (try dsimp only at hc17)
                      (exfalso; simp_all [gw_r40, gw_r41, gw_r39, gw_rS]; done)
                · rw [if_neg h4] at hk
                  refine gm_p k_Md_goParallel rfl rfl ?_
                  refine gm_p k_Md_goParallel rfl rfl ?_
                  refine gm_ic k_Md_goParallel rfl rfl rfl (fun hc13 => ?_) (fun hc13 => ?_)
                  · (try dsimp only at hc13)
                    (exfalso; simp_all [gw_r40, gw_r41, gw_r39, gw_rS]; done)
                  · (try dsimp only at hc13)
                    refine gm_p k_Md_goParallel rfl rfl ?_
                    refine gm_if k_Md_goParallel rfl rfl rfl (fun hc17 => ?_) (fun hc17 => ?_)
                    · (try dsimp only at hc17)
                      refine gm_p k_Md_goParallel rfl rfl ?_
                      refine gm_p k_Md_goParallel rfl rfl ?_
                      refine gm_p k_Md_goParallel rfl rfl ?_
                      refine gm_ivE (M' := m_Md_go) (As := [.int k, .int res]) k_Md_goParallel rfl rfl rfl rfl rfl rfl (Nat.le_of_ble_eq_true rfl) (ig _ _ _ _ _ (by omega) hT hS hx) ?_
                      simp only [gw_tr]
                      refine gm_p k_Md_goParallel rfl rfl ?_
                      refine gm_p k_Md_goParallel rfl rfl ?_
                      refine gm_p k_Md_goParallel rfl rfl ?_
                      refine gm_ic k_Md_goParallel rfl rfl rfl (fun hc45 => ?_) (fun hc45 => ?_)
                      · (try dsimp only at hc45)
                        (exfalso; simp_all [gw_r40, gw_r41, gw_r39, gw_rS]; done)
                      · (try dsimp only at hc45)
                        refine gm_p k_Md_goParallel rfl rfl ?_
                        refine gm_j k_Md_goParallel rfl rfl ?_
                        refine gm_p k_Md_goParallel rfl rfl ?_
                        refine gm_p k_Md_goParallel rfl rfl ?_
                        refine gm_g k_Md_goParallel rfl rfl rfl rfl ?_
                        refine gm_p k_Md_goParallel rfl rfl ?_
                        refine gm_ld k_Md_goParallel rfl rfl (gi_in (by assumption)) (by decide) ?_
                        refine gm_p k_Md_goParallel rfl rfl ?_
                        refine gm_j k_Md_goParallel rfl rfl ?_
                        exact (ihn _ _ _ _ hk).2 _
                    · (try dsimp only at hc17)
                      (exfalso; simp_all [gw_r40, gw_r41, gw_r39, gw_rS]; done)
              · rw [if_neg g1] at hk
                cases hk
          · rw [if_neg h2] at hk
            by_cases g1 : gi k 2600 = true
            · rw [if_pos g1] at hk
              by_cases h5 : σ.2 25 k.toNatClampNeg &&& S = 0
              · rw [if_pos h5] at hk
                by_cases h4 : (0 : Int32) ≤ c
                · rw [if_pos h4] at hk
                  rw [← hS] at h5
                  refine gm_p k_Md_goParallel rfl rfl ?_
                  refine gm_p k_Md_goParallel rfl rfl ?_
                  refine gm_ic k_Md_goParallel rfl rfl rfl (fun hc13 => ?_) (fun hc13 => ?_)
                  · (try dsimp only at hc13)
                    (exfalso; simp_all [gw_r40, gw_r41, gw_r39, gw_rS]; done)
                  · (try dsimp only at hc13)
                    refine gm_p k_Md_goParallel rfl rfl ?_
                    refine gm_if k_Md_goParallel rfl rfl rfl (fun hc17 => ?_) (fun hc17 => ?_)
                    · (try dsimp only at hc17)
                      (exfalso; simp_all [gw_r40, gw_r41, gw_r39, gw_rS]; done)
                    · (try dsimp only at hc17)
                      refine gm_p k_Md_goParallel rfl rfl ?_
                      refine gm_p k_Md_goParallel rfl rfl ?_
                      refine gm_ivE (M' := m_Md_isWithin) (As := [.int _]) k_Md_goParallel rfl rfl rfl rfl rfl rfl (Nat.le_of_ble_eq_true rfl) (c_Md_isWithin (by assumption)) ?_
                      refine gm_if k_Md_goParallel rfl rfl rfl (fun hc26 => ?_) (fun hc26 => ?_)
                      · (try dsimp only at hc26)
                        (exfalso; simp_all [gw_r40, gw_r41, gw_r39, gw_rS]; done)
                      · (try dsimp only at hc26)
                        refine gm_p k_Md_goParallel rfl rfl ?_
                        refine gm_j k_Md_goParallel rfl rfl ?_
                        refine gm_p k_Md_goParallel rfl rfl ?_
                        refine gm_p k_Md_goParallel rfl rfl ?_
                        refine gm_p k_Md_goParallel rfl rfl ?_
                        refine gm_ic k_Md_goParallel rfl rfl rfl (fun hc45 => ?_) (fun hc45 => ?_)
                        · (try dsimp only at hc45)
                          refine gm_p k_Md_goParallel rfl rfl ?_
                          refine gm_p k_Md_goParallel rfl rfl ?_
                          refine gm_p k_Md_goParallel rfl rfl ?_
                          refine gm_g k_Md_goParallel rfl rfl rfl rfl ?_
                          refine gm_p k_Md_goParallel rfl rfl ?_
                          refine gm_ld k_Md_goParallel rfl rfl (gi_in (by assumption)) (by decide) ?_
                          refine gm_p k_Md_goParallel rfl rfl ?_
                          refine gm_j k_Md_goParallel rfl rfl ?_
                          exact (ihn _ _ _ _ hk).2 _
                        · (try dsimp only at hc45)
                          (exfalso; simp_all [gw_r40, gw_r41, gw_r39, gw_rS]; done)
                · rw [if_neg h4] at hk
                  rw [← hS] at h5
                  refine gm_p k_Md_goParallel rfl rfl ?_
                  refine gm_p k_Md_goParallel rfl rfl ?_
                  refine gm_ic k_Md_goParallel rfl rfl rfl (fun hc13 => ?_) (fun hc13 => ?_)
                  · (try dsimp only at hc13)
                    (exfalso; simp_all [gw_r40, gw_r41, gw_r39, gw_rS]; done)
                  · (try dsimp only at hc13)
                    refine gm_p k_Md_goParallel rfl rfl ?_
                    refine gm_if k_Md_goParallel rfl rfl rfl (fun hc17 => ?_) (fun hc17 => ?_)
                    · (try dsimp only at hc17)
                      (exfalso; simp_all [gw_r40, gw_r41, gw_r39, gw_rS]; done)
                    · (try dsimp only at hc17)
                      refine gm_p k_Md_goParallel rfl rfl ?_
                      refine gm_p k_Md_goParallel rfl rfl ?_
                      refine gm_ivE (M' := m_Md_isWithin) (As := [.int _]) k_Md_goParallel rfl rfl rfl rfl rfl rfl (Nat.le_of_ble_eq_true rfl) (c_Md_isWithin (by assumption)) ?_
                      refine gm_if k_Md_goParallel rfl rfl rfl (fun hc26 => ?_) (fun hc26 => ?_)
                      · (try dsimp only at hc26)
                        (exfalso; simp_all [gw_r40, gw_r41, gw_r39, gw_rS]; done)
                      · (try dsimp only at hc26)
                        refine gm_p k_Md_goParallel rfl rfl ?_
                        refine gm_j k_Md_goParallel rfl rfl ?_
                        refine gm_p k_Md_goParallel rfl rfl ?_
                        refine gm_p k_Md_goParallel rfl rfl ?_
                        refine gm_p k_Md_goParallel rfl rfl ?_
                        refine gm_ic k_Md_goParallel rfl rfl rfl (fun hc45 => ?_) (fun hc45 => ?_)
                        · (try dsimp only at hc45)
                          (exfalso; simp_all [gw_r40, gw_r41, gw_r39, gw_rS]; done)
                        · (try dsimp only at hc45)
                          refine gm_p k_Md_goParallel rfl rfl ?_
                          refine gm_j k_Md_goParallel rfl rfl ?_
                          refine gm_p k_Md_goParallel rfl rfl ?_
                          refine gm_p k_Md_goParallel rfl rfl ?_
                          refine gm_g k_Md_goParallel rfl rfl rfl rfl ?_
                          refine gm_p k_Md_goParallel rfl rfl ?_
                          refine gm_ld k_Md_goParallel rfl rfl (gi_in (by assumption)) (by decide) ?_
                          refine gm_p k_Md_goParallel rfl rfl ?_
                          refine gm_j k_Md_goParallel rfl rfl ?_
                          exact (ihn _ _ _ _ hk).2 _
              · rw [if_neg h5] at hk
                cases hx : g k res (σ.2 38) s fl with
                | none =>
                  rw [hx] at hk
                  cases hk
                | some x =>
                  rw [hx] at hk
                  try dsimp only at hk
                  by_cases h4 : x.1 ≤ c
                  · rw [if_pos h4] at hk
                    rw [← hS] at h5
                    refine gm_p k_Md_goParallel rfl rfl ?_
                    refine gm_p k_Md_goParallel rfl rfl ?_
                    refine gm_ic k_Md_goParallel rfl rfl rfl (fun hc13 => ?_) (fun hc13 => ?_)
                    · (try dsimp only at hc13)
                      (exfalso; simp_all [gw_r40, gw_r41, gw_r39, gw_rS]; done)
                    · (try dsimp only at hc13)
                      refine gm_p k_Md_goParallel rfl rfl ?_
                      refine gm_if k_Md_goParallel rfl rfl rfl (fun hc17 => ?_) (fun hc17 => ?_)
                      · (try dsimp only at hc17)
                        (exfalso; simp_all [gw_r40, gw_r41, gw_r39, gw_rS]; done)
                      · (try dsimp only at hc17)
                        refine gm_p k_Md_goParallel rfl rfl ?_
                        refine gm_p k_Md_goParallel rfl rfl ?_
                        refine gm_ivE (M' := m_Md_isWithin) (As := [.int _]) k_Md_goParallel rfl rfl rfl rfl rfl rfl (Nat.le_of_ble_eq_true rfl) (c_Md_isWithin (by assumption)) ?_
                        refine gm_if k_Md_goParallel rfl rfl rfl (fun hc26 => ?_) (fun hc26 => ?_)
                        · (try dsimp only at hc26)
                          refine gm_p k_Md_goParallel rfl rfl ?_
                          refine gm_p k_Md_goParallel rfl rfl ?_
                          refine gm_p k_Md_goParallel rfl rfl ?_
                          refine gm_ivE (M' := m_Md_go) (As := [.int k, .int res]) k_Md_goParallel rfl rfl rfl rfl rfl rfl (Nat.le_of_ble_eq_true rfl) (ig _ _ _ _ _ (by omega) hT hS hx) ?_
                          simp only [gw_tr]
                          refine gm_p k_Md_goParallel rfl rfl ?_
                          refine gm_p k_Md_goParallel rfl rfl ?_
                          refine gm_p k_Md_goParallel rfl rfl ?_
                          refine gm_ic k_Md_goParallel rfl rfl rfl (fun hc45 => ?_) (fun hc45 => ?_)
                          · (try dsimp only at hc45)
                            refine gm_p k_Md_goParallel rfl rfl ?_
                            refine gm_p k_Md_goParallel rfl rfl ?_
                            refine gm_p k_Md_goParallel rfl rfl ?_
                            refine gm_g k_Md_goParallel rfl rfl rfl rfl ?_
                            refine gm_p k_Md_goParallel rfl rfl ?_
                            refine gm_ld k_Md_goParallel rfl rfl (gi_in (by assumption)) (by decide) ?_
                            refine gm_p k_Md_goParallel rfl rfl ?_
                            refine gm_j k_Md_goParallel rfl rfl ?_
                            exact (ihn _ _ _ _ hk).2 _
                          · (try dsimp only at hc45)
                            (exfalso; simp_all [gw_r40, gw_r41, gw_r39, gw_rS]; done)
                        · (try dsimp only at hc26)
                          (exfalso; simp_all [gw_r40, gw_r41, gw_r39, gw_rS]; done)
                  · rw [if_neg h4] at hk
                    rw [← hS] at h5
                    refine gm_p k_Md_goParallel rfl rfl ?_
                    refine gm_p k_Md_goParallel rfl rfl ?_
                    refine gm_ic k_Md_goParallel rfl rfl rfl (fun hc13 => ?_) (fun hc13 => ?_)
                    · (try dsimp only at hc13)
                      (exfalso; simp_all [gw_r40, gw_r41, gw_r39, gw_rS]; done)
                    · (try dsimp only at hc13)
                      refine gm_p k_Md_goParallel rfl rfl ?_
                      refine gm_if k_Md_goParallel rfl rfl rfl (fun hc17 => ?_) (fun hc17 => ?_)
                      · (try dsimp only at hc17)
                        (exfalso; simp_all [gw_r40, gw_r41, gw_r39, gw_rS]; done)
                      · (try dsimp only at hc17)
                        refine gm_p k_Md_goParallel rfl rfl ?_
                        refine gm_p k_Md_goParallel rfl rfl ?_
                        refine gm_ivE (M' := m_Md_isWithin) (As := [.int _]) k_Md_goParallel rfl rfl rfl rfl rfl rfl (Nat.le_of_ble_eq_true rfl) (c_Md_isWithin (by assumption)) ?_
                        refine gm_if k_Md_goParallel rfl rfl rfl (fun hc26 => ?_) (fun hc26 => ?_)
                        · (try dsimp only at hc26)
                          refine gm_p k_Md_goParallel rfl rfl ?_
                          refine gm_p k_Md_goParallel rfl rfl ?_
                          refine gm_p k_Md_goParallel rfl rfl ?_
                          refine gm_ivE (M' := m_Md_go) (As := [.int k, .int res]) k_Md_goParallel rfl rfl rfl rfl rfl rfl (Nat.le_of_ble_eq_true rfl) (ig _ _ _ _ _ (by omega) hT hS hx) ?_
                          simp only [gw_tr]
                          refine gm_p k_Md_goParallel rfl rfl ?_
                          refine gm_p k_Md_goParallel rfl rfl ?_
                          refine gm_p k_Md_goParallel rfl rfl ?_
                          refine gm_ic k_Md_goParallel rfl rfl rfl (fun hc45 => ?_) (fun hc45 => ?_)
                          · (try dsimp only at hc45)
                            (exfalso; simp_all [gw_r40, gw_r41, gw_r39, gw_rS]; done)
                          · (try dsimp only at hc45)
                            refine gm_p k_Md_goParallel rfl rfl ?_
                            refine gm_j k_Md_goParallel rfl rfl ?_
                            refine gm_p k_Md_goParallel rfl rfl ?_
                            refine gm_p k_Md_goParallel rfl rfl ?_
                            refine gm_g k_Md_goParallel rfl rfl rfl rfl ?_
                            refine gm_p k_Md_goParallel rfl rfl ?_
                            refine gm_ld k_Md_goParallel rfl rfl (gi_in (by assumption)) (by decide) ?_
                            refine gm_p k_Md_goParallel rfl rfl ?_
                            refine gm_j k_Md_goParallel rfl rfl ?_
                            exact (ihn _ _ _ _ hk).2 _
                        · (try dsimp only at hc26)
                          (exfalso; simp_all [gw_r40, gw_r41, gw_r39, gw_rS]; done)
            · rw [if_neg g1] at hk
              cases hk
  refine gm_meth (k := 3) (L := [some (.ref a), some (.int p), some (.int res), none, none, none]) pn_Md rfl (Nat.le_of_ble_eq_true rfl) ?_
  unfold gw_pr at hp
  rw [← hT 23 (by decide) (by decide)] at hp
  by_cases g1 : gi p 2600 = true
  · rw [if_pos g1] at hp
    rw [show gw_pl g T = gw_pl g σ.2 from congrFun (gw_pl_c hT) _] at hp
    refine gm_p k_Md_goParallel rfl rfl ?_
    refine gm_p k_Md_goParallel rfl rfl ?_
    refine gm_p k_Md_goParallel rfl rfl ?_
    refine gm_g k_Md_goParallel rfl rfl rfl rfl ?_
    refine gm_p k_Md_goParallel rfl rfl ?_
    refine gm_ld k_Md_goParallel rfl rfl (gi_in (by assumption)) (by decide) ?_
    refine gm_p k_Md_goParallel rfl rfl ?_
    have hq := (loop _ _ _ _ _ hp).1
    rw [← @gw_e σ] at hq
    exact hq
  · rw [if_neg g1] at hp
    cases hp
theorem c_Md_go (ih : mw_IH l F a A D T S f) (ig : gw_IH l F a A D T S g) {dd : Nat} {p res : Int32} {v : gw_V} (hD : D + 3 ≤ dd) (h9 : 6 ≤ dd) (hT : ∀ k, 20 ≤ k → k ≤ 25 → σ.2 k = T k) (hS : σ.1 39 = S) (g1 : gi p 2600 = true) (g9 : gi (T 21 p.toNatClampNeg) 26 = true ∨ True) (hp : gw_go T S f g p res (σ.2 38) (σ.1 41) (σ.1 40) = some v) : gm_Has l F dd m_Md_go a A [.int p, .int res] σ (fun w σ' => w = some (.int v.1) ∧ σ' = gw_st σ v.2.1 v.2.2) := by
  obtain ⟨d, rfl⟩ : ∃ d, dd = d + 6 := ⟨dd - 6, by omega⟩
  refine gm_meth (k := 2) (L := [some (.ref a), some (.int p), some (.int res), none, none]) pn_Md rfl (Nat.le_of_ble_eq_true rfl) ?_
  unfold gw_go at hp
  rw [mw_ch_c hT, ← hT 20 (by decide) (by decide), ← hT 21 (by decide) (by decide), ← hT 22 (by decide) (by decide), ← hT 23 (by decide) (by decide), ← hT 25 (by decide) (by decide)] at hp
  by_cases h0 : σ.2 20 p.toNatClampNeg = 0
  · rw [if_pos h0] at hp
    cases hp
    refine gm_p k_Md_go rfl rfl ?_
    refine gm_g k_Md_go rfl rfl rfl rfl ?_
    refine gm_p k_Md_go rfl rfl ?_
    refine gm_ld k_Md_go rfl rfl (gi_in (by assumption)) (by decide) ?_
    refine gm_p k_Md_go rfl rfl ?_
    refine gm_p k_Md_go rfl rfl ?_
    refine gm_g k_Md_go rfl rfl rfl rfl ?_
    refine gm_p k_Md_go rfl rfl ?_
    refine gm_ld k_Md_go rfl rfl (gi_in (by assumption)) (by decide) ?_
    refine gm_p k_Md_go rfl rfl ?_
    refine gm_p k_Md_go rfl rfl ?_
    refine gm_g k_Md_go rfl rfl rfl rfl ?_
    refine gm_p k_Md_go rfl rfl ?_
    refine gm_ld k_Md_go rfl rfl (gi_in (by assumption)) (by decide) ?_
    rw [show ((σ.2 20 p.toNatClampNeg : Int32)) = 0 from h0]
    refine gm_tI (tgt := 76) k_Md_go rfl rfl (by decide) (by decide) rfl rfl ?_
    refine gm_p k_Md_go rfl rfl ?_
    exact gm_ret (v := some (.int _)) k_Md_go rfl rfl trivial rfl ⟨rfl, gw_e⟩
  · rw [if_neg h0] at hp
    by_cases h1 : σ.2 20 p.toNatClampNeg = 1
    · rw [if_pos h1] at hp
      by_cases r0 : res = 0
      · rw [if_pos r0] at hp
        cases hp
        refine gm_p k_Md_go rfl rfl ?_
        refine gm_g k_Md_go rfl rfl rfl rfl ?_
        refine gm_p k_Md_go rfl rfl ?_
        refine gm_ld k_Md_go rfl rfl (gi_in (by assumption)) (by decide) ?_
        refine gm_p k_Md_go rfl rfl ?_
        refine gm_p k_Md_go rfl rfl ?_
        refine gm_g k_Md_go rfl rfl rfl rfl ?_
        refine gm_p k_Md_go rfl rfl ?_
        refine gm_ld k_Md_go rfl rfl (gi_in (by assumption)) (by decide) ?_
        refine gm_p k_Md_go rfl rfl ?_
        refine gm_p k_Md_go rfl rfl ?_
        refine gm_g k_Md_go rfl rfl rfl rfl ?_
        refine gm_p k_Md_go rfl rfl ?_
        refine gm_ld k_Md_go rfl rfl (gi_in (by assumption)) (by decide) ?_
        rw [show ((σ.2 20 p.toNatClampNeg : Int32)) = 1 from h1]
        refine gm_tI (tgt := 78) k_Md_go rfl rfl (by decide) (by decide) rfl rfl ?_
        refine gm_p k_Md_go rfl rfl ?_
        refine gm_if k_Md_go rfl rfl rfl (fun hc79 => ?_) (fun hc79 => ?_)
        · (try dsimp only at hc79)
          (exfalso; simp_all; done)
        · (try dsimp only at hc79)
          refine gm_p k_Md_go rfl rfl ?_
          refine gm_p k_Md_go rfl rfl ?_
          refine gm_g k_Md_go rfl rfl rfl rfl ?_
          refine gm_p k_Md_go rfl rfl ?_
          refine gm_g k_Md_go rfl rfl rfl rfl ?_
          refine gm_p k_Md_go rfl rfl ?_
          refine gm_ld k_Md_go rfl rfl (gi_in (by assumption)) (by decide) ?_
          refine gm_p k_Md_go rfl rfl ?_
          refine gm_pt k_Md_go rfl rfl rfl trivial (by decide) rfl ?_
          refine gm_p k_Md_go rfl rfl ?_
          refine gm_if k_Md_go rfl rfl rfl (fun hc98 => ?_) (fun hc98 => ?_)
          · (try dsimp only at hc98)
            refine gm_p k_Md_go rfl rfl ?_
            exact gm_ret (v := some (.int _)) k_Md_go rfl rfl trivial rfl ⟨rfl, gw_e41⟩
          · (try dsimp only at hc98)
            (exfalso; simp_all; done)
      · rw [if_neg r0] at hp
        cases hp
        refine gm_p k_Md_go rfl rfl ?_
        refine gm_g k_Md_go rfl rfl rfl rfl ?_
        refine gm_p k_Md_go rfl rfl ?_
        refine gm_ld k_Md_go rfl rfl (gi_in (by assumption)) (by decide) ?_
        refine gm_p k_Md_go rfl rfl ?_
        refine gm_p k_Md_go rfl rfl ?_
        refine gm_g k_Md_go rfl rfl rfl rfl ?_
        refine gm_p k_Md_go rfl rfl ?_
        refine gm_ld k_Md_go rfl rfl (gi_in (by assumption)) (by decide) ?_
        refine gm_p k_Md_go rfl rfl ?_
        refine gm_p k_Md_go rfl rfl ?_
        refine gm_g k_Md_go rfl rfl rfl rfl ?_
        refine gm_p k_Md_go rfl rfl ?_
        refine gm_ld k_Md_go rfl rfl (gi_in (by assumption)) (by decide) ?_
        rw [show ((σ.2 20 p.toNatClampNeg : Int32)) = 1 from h1]
        refine gm_tI (tgt := 78) k_Md_go rfl rfl (by decide) (by decide) rfl rfl ?_
        refine gm_p k_Md_go rfl rfl ?_
        refine gm_if k_Md_go rfl rfl rfl (fun hc79 => ?_) (fun hc79 => ?_)
        · (try dsimp only at hc79)
          refine gm_p k_Md_go rfl rfl ?_
          refine gm_if k_Md_go rfl rfl rfl (fun hc98 => ?_) (fun hc98 => ?_)
          · (try dsimp only at hc98)
            (exfalso; simp_all; done)
          · (try dsimp only at hc98)
            refine gm_p k_Md_go rfl rfl ?_
            refine gm_j k_Md_go rfl rfl ?_
            exact gm_ret (v := some (.int _)) k_Md_go rfl rfl trivial rfl ⟨rfl, gw_e⟩
        · (try dsimp only at hc79)
          (exfalso; simp_all; done)
    · rw [if_neg h1] at hp
      by_cases h2 : σ.2 20 p.toNatClampNeg = 2
      · rw [if_pos h2] at hp
        cases hp
        refine gm_p k_Md_go rfl rfl ?_
        refine gm_g k_Md_go rfl rfl rfl rfl ?_
        refine gm_p k_Md_go rfl rfl ?_
        refine gm_ld k_Md_go rfl rfl (gi_in (by assumption)) (by decide) ?_
        refine gm_p k_Md_go rfl rfl ?_
        refine gm_p k_Md_go rfl rfl ?_
        refine gm_g k_Md_go rfl rfl rfl rfl ?_
        refine gm_p k_Md_go rfl rfl ?_
        refine gm_ld k_Md_go rfl rfl (gi_in (by assumption)) (by decide) ?_
        refine gm_p k_Md_go rfl rfl ?_
        refine gm_p k_Md_go rfl rfl ?_
        refine gm_g k_Md_go rfl rfl rfl rfl ?_
        refine gm_p k_Md_go rfl rfl ?_
        refine gm_ld k_Md_go rfl rfl (gi_in (by assumption)) (by decide) ?_
        rw [show ((σ.2 20 p.toNatClampNeg : Int32)) = 2 from h2]
        refine gm_tI (tgt := 76) k_Md_go rfl rfl (by decide) (by decide) rfl rfl ?_
        refine gm_p k_Md_go rfl rfl ?_
        exact gm_ret (v := some (.int _)) k_Md_go rfl rfl trivial rfl ⟨rfl, gw_e⟩
      · rw [if_neg h2] at hp
        by_cases h3 : σ.2 20 p.toNatClampNeg = 3
        · rw [if_pos h3] at hp
          by_cases r0 : res = 0
          · rw [if_pos r0] at hp
            by_cases g2 : gi (σ.2 21 p.toNatClampNeg) 26 = true
            · rw [if_pos g2] at hp
              cases hq : mw_ch σ.2 S p (σ.2 38 (σ.2 21 p.toNatClampNeg).toNatClampNeg) with
              | none =>
                rw [hq] at hp
                cases hp
              | some q =>
                rw [hq] at hp
                try dsimp only at hp
                rw [← hS] at hq
                refine gm_p k_Md_go rfl rfl ?_
                refine gm_g k_Md_go rfl rfl rfl rfl ?_
                refine gm_p k_Md_go rfl rfl ?_
                refine gm_ld k_Md_go rfl rfl (gi_in (by assumption)) (by decide) ?_
                refine gm_p k_Md_go rfl rfl ?_
                refine gm_p k_Md_go rfl rfl ?_
                refine gm_g k_Md_go rfl rfl rfl rfl ?_
                refine gm_p k_Md_go rfl rfl ?_
                refine gm_ld k_Md_go rfl rfl (gi_in (by assumption)) (by decide) ?_
                refine gm_p k_Md_go rfl rfl ?_
                refine gm_p k_Md_go rfl rfl ?_
                refine gm_g k_Md_go rfl rfl rfl rfl ?_
                refine gm_p k_Md_go rfl rfl ?_
                refine gm_ld k_Md_go rfl rfl (gi_in (by assumption)) (by decide) ?_
                rw [show ((σ.2 20 p.toNatClampNeg : Int32)) = 3 from h3]
                refine gm_tI (tgt := 114) k_Md_go rfl rfl (by decide) (by decide) rfl rfl ?_
                refine gm_p k_Md_go rfl rfl ?_
                refine gm_p k_Md_go rfl rfl ?_
                refine gm_p k_Md_go rfl rfl ?_
                refine gm_p k_Md_go rfl rfl ?_
                refine gm_if k_Md_go rfl rfl rfl (fun hc118 => ?_) (fun hc118 => ?_)
                · (try dsimp only at hc118)
                  refine gm_p k_Md_go rfl rfl ?_
                  refine gm_g k_Md_go rfl rfl rfl rfl ?_
                  refine gm_p k_Md_go rfl rfl ?_
                  refine gm_ld k_Md_go rfl rfl (gi_in (by assumption)) (by decide) ?_
                  refine gm_ivE (M' := m_Md_chosen) (As := [.int p, .int _]) k_Md_go rfl rfl rfl rfl rfl rfl (Nat.le_of_ble_eq_true rfl) (c_Md_chosen hq) ?_
                  refine gm_p k_Md_go rfl rfl ?_
                  refine gm_ivE (M' := m_Md_go) (As := [.int q, .int res]) k_Md_go rfl rfl rfl rfl rfl rfl (Nat.le_of_ble_eq_true rfl) (ig _ _ _ _ _ (by omega) hT hS hp) ?_
                  exact gm_ret (v := some (.int _)) k_Md_go rfl rfl trivial rfl ⟨rfl, rfl⟩
                · (try dsimp only at hc118)
                  (exfalso; simp_all; done)
            · rw [if_neg g2] at hp
              cases hp
          · rw [if_neg r0] at hp
            cases hq : mw_ch σ.2 S p 0 with
            | none =>
              rw [hq] at hp
              cases hp
            | some q =>
              rw [hq] at hp
              try dsimp only at hp
              rw [← hS] at hq
              refine gm_p k_Md_go rfl rfl ?_
              refine gm_g k_Md_go rfl rfl rfl rfl ?_
              refine gm_p k_Md_go rfl rfl ?_
              refine gm_ld k_Md_go rfl rfl (gi_in (by assumption)) (by decide) ?_
              refine gm_p k_Md_go rfl rfl ?_
              refine gm_p k_Md_go rfl rfl ?_
              refine gm_g k_Md_go rfl rfl rfl rfl ?_
              refine gm_p k_Md_go rfl rfl ?_
              refine gm_ld k_Md_go rfl rfl (gi_in (by assumption)) (by decide) ?_
              refine gm_p k_Md_go rfl rfl ?_
              refine gm_p k_Md_go rfl rfl ?_
              refine gm_g k_Md_go rfl rfl rfl rfl ?_
              refine gm_p k_Md_go rfl rfl ?_
              refine gm_ld k_Md_go rfl rfl (gi_in (by assumption)) (by decide) ?_
              rw [show ((σ.2 20 p.toNatClampNeg : Int32)) = 3 from h3]
              refine gm_tI (tgt := 114) k_Md_go rfl rfl (by decide) (by decide) rfl rfl ?_
              refine gm_p k_Md_go rfl rfl ?_
              refine gm_p k_Md_go rfl rfl ?_
              refine gm_p k_Md_go rfl rfl ?_
              refine gm_p k_Md_go rfl rfl ?_
              refine gm_if k_Md_go rfl rfl rfl (fun hc118 => ?_) (fun hc118 => ?_)
              · (try dsimp only at hc118)
                (exfalso; simp_all; done)
              · (try dsimp only at hc118)
                refine gm_p k_Md_go rfl rfl ?_
                refine gm_j k_Md_go rfl rfl ?_
                refine gm_ivE (M' := m_Md_chosen) (As := [.int p, .int 0]) k_Md_go rfl rfl rfl rfl rfl rfl (Nat.le_of_ble_eq_true rfl) (c_Md_chosen hq) ?_
                refine gm_p k_Md_go rfl rfl ?_
                refine gm_ivE (M' := m_Md_go) (As := [.int q, .int res]) k_Md_go rfl rfl rfl rfl rfl rfl (Nat.le_of_ble_eq_true rfl) (ig _ _ _ _ _ (by omega) hT hS hp) ?_
                exact gm_ret (v := some (.int _)) k_Md_go rfl rfl trivial rfl ⟨rfl, rfl⟩
        · rw [if_neg h3] at hp
          by_cases h4 : σ.2 20 p.toNatClampNeg = 4
          · rw [if_pos h4] at hp
            refine gm_p k_Md_go rfl rfl ?_
            refine gm_g k_Md_go rfl rfl rfl rfl ?_
            refine gm_p k_Md_go rfl rfl ?_
            refine gm_ld k_Md_go rfl rfl (gi_in (by assumption)) (by decide) ?_
            refine gm_p k_Md_go rfl rfl ?_
            refine gm_p k_Md_go rfl rfl ?_
            refine gm_g k_Md_go rfl rfl rfl rfl ?_
            refine gm_p k_Md_go rfl rfl ?_
            refine gm_ld k_Md_go rfl rfl (gi_in (by assumption)) (by decide) ?_
            refine gm_p k_Md_go rfl rfl ?_
            refine gm_p k_Md_go rfl rfl ?_
            refine gm_g k_Md_go rfl rfl rfl rfl ?_
            refine gm_p k_Md_go rfl rfl ?_
            refine gm_ld k_Md_go rfl rfl (gi_in (by assumption)) (by decide) ?_
            rw [show ((σ.2 20 p.toNatClampNeg : Int32)) = 4 from h4]
            refine gm_tI (tgt := 140) k_Md_go rfl rfl (by decide) (by decide) rfl rfl ?_
            refine gm_p k_Md_go rfl rfl ?_
            refine gm_p k_Md_go rfl rfl ?_
            refine gm_p k_Md_go rfl rfl ?_
            refine gm_ivE (M' := m_Md_goLoop) (As := [.int (σ.2 23 p.toNatClampNeg), .int res]) k_Md_go rfl rfl rfl rfl rfl rfl (Nat.le_of_ble_eq_true rfl) (c_Md_goLoop ig (by omega) (by omega) hT hS hp) ?_
            exact gm_ret (v := some (.int _)) k_Md_go rfl rfl trivial rfl ⟨rfl, rfl⟩
          · rw [if_neg h4] at hp
            by_cases h5 : σ.2 20 p.toNatClampNeg = 5
            · rw [if_pos h5] at hp
              by_cases r0 : res = 0
              · rw [if_pos r0] at hp
                refine gm_p k_Md_go rfl rfl ?_
                refine gm_g k_Md_go rfl rfl rfl rfl ?_
                refine gm_p k_Md_go rfl rfl ?_
                refine gm_ld k_Md_go rfl rfl (gi_in (by assumption)) (by decide) ?_
                refine gm_p k_Md_go rfl rfl ?_
                refine gm_p k_Md_go rfl rfl ?_
                refine gm_g k_Md_go rfl rfl rfl rfl ?_
                refine gm_p k_Md_go rfl rfl ?_
                refine gm_ld k_Md_go rfl rfl (gi_in (by assumption)) (by decide) ?_
                refine gm_p k_Md_go rfl rfl ?_
                refine gm_p k_Md_go rfl rfl ?_
                refine gm_g k_Md_go rfl rfl rfl rfl ?_
                refine gm_p k_Md_go rfl rfl ?_
                refine gm_ld k_Md_go rfl rfl (gi_in (by assumption)) (by decide) ?_
                rw [show ((σ.2 20 p.toNatClampNeg : Int32)) = 5 from h5]
                refine gm_tI (tgt := 147) k_Md_go rfl rfl (by decide) (by decide) rfl rfl ?_
                refine gm_p k_Md_go rfl rfl ?_
                refine gm_if k_Md_go rfl rfl rfl (fun hc148 => ?_) (fun hc148 => ?_)
                · (try dsimp only at hc148)
                  refine gm_p k_Md_go rfl rfl ?_
                  refine gm_p k_Md_go rfl rfl ?_
                  refine gm_p k_Md_go rfl rfl ?_
                  refine gm_ivE (M' := m_Md_go) (As := [.int (σ.2 23 p.toNatClampNeg), .int res]) k_Md_go rfl rfl rfl rfl rfl rfl (Nat.le_of_ble_eq_true rfl) (ig _ _ _ _ _ (by omega) hT hS hp) ?_
                  exact gm_ret (v := some (.int _)) k_Md_go rfl rfl trivial rfl ⟨rfl, rfl⟩
                · (try dsimp only at hc148)
                  (exfalso; simp_all; done)
              · rw [if_neg r0] at hp
                by_cases g2 : gi (σ.2 21 p.toNatClampNeg) 26 = true
                · rw [if_pos g2] at hp
                  by_cases e1 : σ.2 38 (σ.2 21 p.toNatClampNeg).toNatClampNeg = 1
                  · rw [if_pos e1] at hp
                    cases hp
                    refine gm_p k_Md_go rfl rfl ?_
                    refine gm_g k_Md_go rfl rfl rfl rfl ?_
                    refine gm_p k_Md_go rfl rfl ?_
                    refine gm_ld k_Md_go rfl rfl (gi_in (by assumption)) (by decide) ?_
                    refine gm_p k_Md_go rfl rfl ?_
                    refine gm_p k_Md_go rfl rfl ?_
                    refine gm_g k_Md_go rfl rfl rfl rfl ?_
                    refine gm_p k_Md_go rfl rfl ?_
                    refine gm_ld k_Md_go rfl rfl (gi_in (by assumption)) (by decide) ?_
                    refine gm_p k_Md_go rfl rfl ?_
                    refine gm_p k_Md_go rfl rfl ?_
                    refine gm_g k_Md_go rfl rfl rfl rfl ?_
                    refine gm_p k_Md_go rfl rfl ?_
                    refine gm_ld k_Md_go rfl rfl (gi_in (by assumption)) (by decide) ?_
                    rw [show ((σ.2 20 p.toNatClampNeg : Int32)) = 5 from h5]
                    refine gm_tI (tgt := 147) k_Md_go rfl rfl (by decide) (by decide) rfl rfl ?_
                    refine gm_p k_Md_go rfl rfl ?_
                    refine gm_if k_Md_go rfl rfl rfl (fun hc148 => ?_) (fun hc148 => ?_)
                    · (try dsimp only at hc148)
                      (exfalso; simp_all; done)
                    · (try dsimp only at hc148)
                      refine gm_p k_Md_go rfl rfl ?_
                      refine gm_g k_Md_go rfl rfl rfl rfl ?_
                      refine gm_p k_Md_go rfl rfl ?_
                      refine gm_ld k_Md_go rfl rfl (gi_in (by assumption)) (by decide) ?_
                      refine gm_p k_Md_go rfl rfl ?_
                      refine gm_ic k_Md_go rfl rfl rfl (fun hc159 => ?_) (fun hc159 => ?_)
                      · (try dsimp only at hc159)
                        refine gm_p k_Md_go rfl rfl ?_
                        refine gm_p k_Md_go rfl rfl ?_
                        refine gm_g k_Md_go rfl rfl rfl rfl ?_
                        refine gm_p k_Md_go rfl rfl ?_
                        refine gm_g k_Md_go rfl rfl rfl rfl ?_
                        refine gm_p k_Md_go rfl rfl ?_
                        refine gm_ld k_Md_go rfl rfl (gi_in (by assumption)) (by decide) ?_
                        refine gm_p k_Md_go rfl rfl ?_
                        refine gm_g k_Md_go rfl rfl rfl rfl ?_
                        refine gm_p k_Md_go rfl rfl ?_
                        refine gm_p k_Md_go rfl rfl ?_
                        refine gm_pt k_Md_go rfl rfl rfl trivial (by decide) rfl ?_
                        refine gm_p k_Md_go rfl rfl ?_
                        exact gm_ret (v := some (.int _)) k_Md_go rfl rfl trivial rfl ⟨rfl, (by rw [← hS]; exact gw_e41)⟩
                      · (try dsimp only at hc159)
                        (exfalso; simp_all; done)
                  · rw [if_neg e1] at hp
                    refine gm_p k_Md_go rfl rfl ?_
                    refine gm_g k_Md_go rfl rfl rfl rfl ?_
                    refine gm_p k_Md_go rfl rfl ?_
                    refine gm_ld k_Md_go rfl rfl (gi_in (by assumption)) (by decide) ?_
                    refine gm_p k_Md_go rfl rfl ?_
                    refine gm_p k_Md_go rfl rfl ?_
                    refine gm_g k_Md_go rfl rfl rfl rfl ?_
                    refine gm_p k_Md_go rfl rfl ?_
                    refine gm_ld k_Md_go rfl rfl (gi_in (by assumption)) (by decide) ?_
                    refine gm_p k_Md_go rfl rfl ?_
                    refine gm_p k_Md_go rfl rfl ?_
                    refine gm_g k_Md_go rfl rfl rfl rfl ?_
                    refine gm_p k_Md_go rfl rfl ?_
                    refine gm_ld k_Md_go rfl rfl (gi_in (by assumption)) (by decide) ?_
                    rw [show ((σ.2 20 p.toNatClampNeg : Int32)) = 5 from h5]
                    refine gm_tI (tgt := 147) k_Md_go rfl rfl (by decide) (by decide) rfl rfl ?_
                    refine gm_p k_Md_go rfl rfl ?_
                    refine gm_if k_Md_go rfl rfl rfl (fun hc148 => ?_) (fun hc148 => ?_)
                    · (try dsimp only at hc148)
                      (exfalso; simp_all; done)
                    · (try dsimp only at hc148)
                      refine gm_p k_Md_go rfl rfl ?_
                      refine gm_g k_Md_go rfl rfl rfl rfl ?_
                      refine gm_p k_Md_go rfl rfl ?_
                      refine gm_ld k_Md_go rfl rfl (gi_in (by assumption)) (by decide) ?_
                      refine gm_p k_Md_go rfl rfl ?_
                      refine gm_ic k_Md_go rfl rfl rfl (fun hc159 => ?_) (fun hc159 => ?_)
                      · (try dsimp only at hc159)
                        (exfalso; simp_all; done)
                      · (try dsimp only at hc159)
                        refine gm_p k_Md_go rfl rfl ?_
                        refine gm_p k_Md_go rfl rfl ?_
                        refine gm_p k_Md_go rfl rfl ?_
                        refine gm_ivE (M' := m_Md_go) (As := [.int (σ.2 23 p.toNatClampNeg), .int res]) k_Md_go rfl rfl rfl rfl rfl rfl (Nat.le_of_ble_eq_true rfl) (ig _ _ _ _ _ (by omega) hT hS hp) ?_
                        exact gm_ret (v := some (.int _)) k_Md_go rfl rfl trivial rfl ⟨rfl, rfl⟩
                · rw [if_neg g2] at hp
                  cases hp
            · rw [if_neg h5] at hp
              by_cases h6 : σ.2 20 p.toNatClampNeg = 6
              · rw [if_pos h6] at hp
                refine gm_p k_Md_go rfl rfl ?_
                refine gm_g k_Md_go rfl rfl rfl rfl ?_
                refine gm_p k_Md_go rfl rfl ?_
                refine gm_ld k_Md_go rfl rfl (gi_in (by assumption)) (by decide) ?_
                refine gm_p k_Md_go rfl rfl ?_
                refine gm_p k_Md_go rfl rfl ?_
                refine gm_g k_Md_go rfl rfl rfl rfl ?_
                refine gm_p k_Md_go rfl rfl ?_
                refine gm_ld k_Md_go rfl rfl (gi_in (by assumption)) (by decide) ?_
                refine gm_p k_Md_go rfl rfl ?_
                refine gm_p k_Md_go rfl rfl ?_
                refine gm_g k_Md_go rfl rfl rfl rfl ?_
                refine gm_p k_Md_go rfl rfl ?_
                refine gm_ld k_Md_go rfl rfl (gi_in (by assumption)) (by decide) ?_
                rw [show ((σ.2 20 p.toNatClampNeg : Int32)) = 6 from h6]
                refine gm_tI (tgt := 191) k_Md_go rfl rfl (by decide) (by decide) rfl rfl ?_
                refine gm_p k_Md_go rfl rfl ?_
                refine gm_p k_Md_go rfl rfl ?_
                refine gm_p k_Md_go rfl rfl ?_
                refine gm_ivE (M' := m_Md_goTrap) (As := [.int (σ.2 23 p.toNatClampNeg), .int res]) k_Md_go rfl rfl rfl rfl rfl rfl (Nat.le_of_ble_eq_true rfl) (c_Md_goTrap ig (by omega) (by omega) hT hS hp) ?_
                exact gm_ret (v := some (.int _)) k_Md_go rfl rfl trivial rfl ⟨rfl, rfl⟩
              · rw [if_neg h6] at hp
                by_cases h7 : σ.2 20 p.toNatClampNeg = 7
                · rw [if_pos h7] at hp
                  cases hp
                  refine gm_p k_Md_go rfl rfl ?_
                  refine gm_g k_Md_go rfl rfl rfl rfl ?_
                  refine gm_p k_Md_go rfl rfl ?_
                  refine gm_ld k_Md_go rfl rfl (gi_in (by assumption)) (by decide) ?_
                  refine gm_p k_Md_go rfl rfl ?_
                  refine gm_p k_Md_go rfl rfl ?_
                  refine gm_g k_Md_go rfl rfl rfl rfl ?_
                  refine gm_p k_Md_go rfl rfl ?_
                  refine gm_ld k_Md_go rfl rfl (gi_in (by assumption)) (by decide) ?_
                  refine gm_p k_Md_go rfl rfl ?_
                  refine gm_p k_Md_go rfl rfl ?_
                  refine gm_g k_Md_go rfl rfl rfl rfl ?_
                  refine gm_p k_Md_go rfl rfl ?_
                  refine gm_ld k_Md_go rfl rfl (gi_in (by assumption)) (by decide) ?_
                  rw [show ((σ.2 20 p.toNatClampNeg : Int32)) = 7 from h7]
                  refine gm_tI (tgt := 107) k_Md_go rfl rfl (by decide) (by decide) rfl rfl ?_
                  refine gm_p k_Md_go rfl rfl ?_
                  refine gm_g k_Md_go rfl rfl rfl rfl ?_
                  refine gm_p k_Md_go rfl rfl ?_
                  refine gm_ld k_Md_go rfl rfl (gi_in (by assumption)) (by decide) ?_
                  exact gm_ret (v := some (.int _)) k_Md_go rfl rfl trivial rfl ⟨rfl, gw_e⟩
                · rw [if_neg h7] at hp
                  by_cases h8 : σ.2 20 p.toNatClampNeg = 8
                  · rw [if_pos h8] at hp
                    refine gm_p k_Md_go rfl rfl ?_
                    refine gm_g k_Md_go rfl rfl rfl rfl ?_
                    refine gm_p k_Md_go rfl rfl ?_
                    refine gm_ld k_Md_go rfl rfl (gi_in (by assumption)) (by decide) ?_
                    refine gm_p k_Md_go rfl rfl ?_
                    refine gm_p k_Md_go rfl rfl ?_
                    refine gm_g k_Md_go rfl rfl rfl rfl ?_
                    refine gm_p k_Md_go rfl rfl ?_
                    refine gm_ld k_Md_go rfl rfl (gi_in (by assumption)) (by decide) ?_
                    refine gm_p k_Md_go rfl rfl ?_
                    refine gm_p k_Md_go rfl rfl ?_
                    refine gm_g k_Md_go rfl rfl rfl rfl ?_
                    refine gm_p k_Md_go rfl rfl ?_
                    refine gm_ld k_Md_go rfl rfl (gi_in (by assumption)) (by decide) ?_
                    rw [show ((σ.2 20 p.toNatClampNeg : Int32)) = 8 from h8]
                    refine gm_tI (tgt := 198) k_Md_go rfl rfl (by decide) (by decide) rfl rfl ?_
                    refine gm_p k_Md_go rfl rfl ?_
                    refine gm_p k_Md_go rfl rfl ?_
                    refine gm_p k_Md_go rfl rfl ?_
                    refine gm_ivE (M' := m_Md_goLocal) (As := [.int p, .int res]) k_Md_go rfl rfl rfl rfl rfl rfl (Nat.le_of_ble_eq_true rfl) (c_Md_goLocal ih ig (by omega) (by omega) hT hS hp) ?_
                    exact gm_ret (v := some (.int _)) k_Md_go rfl rfl trivial rfl ⟨rfl, rfl⟩
                  · rw [if_neg h8] at hp
                    by_cases h9 : σ.2 20 p.toNatClampNeg = 9
                    · rw [if_pos h9] at hp
                      refine gm_p k_Md_go rfl rfl ?_
                      refine gm_g k_Md_go rfl rfl rfl rfl ?_
                      refine gm_p k_Md_go rfl rfl ?_
                      refine gm_ld k_Md_go rfl rfl (gi_in (by assumption)) (by decide) ?_
                      refine gm_p k_Md_go rfl rfl ?_
                      refine gm_p k_Md_go rfl rfl ?_
                      refine gm_g k_Md_go rfl rfl rfl rfl ?_
                      refine gm_p k_Md_go rfl rfl ?_
                      refine gm_ld k_Md_go rfl rfl (gi_in (by assumption)) (by decide) ?_
                      refine gm_p k_Md_go rfl rfl ?_
                      refine gm_p k_Md_go rfl rfl ?_
                      refine gm_g k_Md_go rfl rfl rfl rfl ?_
                      refine gm_p k_Md_go rfl rfl ?_
                      refine gm_ld k_Md_go rfl rfl (gi_in (by assumption)) (by decide) ?_
                      rw [show ((σ.2 20 p.toNatClampNeg : Int32)) = 9 from h9]
                      refine gm_tI (tgt := 205) k_Md_go rfl rfl (by decide) (by decide) rfl rfl ?_
                      refine gm_p k_Md_go rfl rfl ?_
                      refine gm_p k_Md_go rfl rfl ?_
                      refine gm_p k_Md_go rfl rfl ?_
                      refine gm_ivE (M' := m_Md_goSequence) (As := [.int p, .int res]) k_Md_go rfl rfl rfl rfl rfl rfl (Nat.le_of_ble_eq_true rfl) (c_Md_goSequence ig (by omega) (by omega) hT hS hp) ?_
                      exact gm_ret (v := some (.int _)) k_Md_go rfl rfl trivial rfl ⟨rfl, rfl⟩
                    · rw [if_neg h9] at hp
                      refine gm_p k_Md_go rfl rfl ?_
                      refine gm_g k_Md_go rfl rfl rfl rfl ?_
                      refine gm_p k_Md_go rfl rfl ?_
                      refine gm_ld k_Md_go rfl rfl (gi_in (by assumption)) (by decide) ?_
                      refine gm_p k_Md_go rfl rfl ?_
                      refine gm_p k_Md_go rfl rfl ?_
                      refine gm_g k_Md_go rfl rfl rfl rfl ?_
                      refine gm_p k_Md_go rfl rfl ?_
                      refine gm_ld k_Md_go rfl rfl (gi_in (by assumption)) (by decide) ?_
                      refine gm_p k_Md_go rfl rfl ?_
                      refine gm_p k_Md_go rfl rfl ?_
                      refine gm_g k_Md_go rfl rfl rfl rfl ?_
                      refine gm_p k_Md_go rfl rfl ?_
                      refine gm_ld k_Md_go rfl rfl (gi_in (by assumption)) (by decide) ?_
                      refine gm_tO (tgt := 212) k_Md_go rfl rfl (sw_out h0 h1 h2 h3 h4 h5 h6 h7 h8 h9) rfl ?_
                      refine gm_p k_Md_go rfl rfl ?_
                      refine gm_p k_Md_go rfl rfl ?_
                      refine gm_p k_Md_go rfl rfl ?_
                      refine gm_ivE (M' := m_Md_goParallel) (As := [.int p, .int res]) k_Md_go rfl rfl rfl rfl rfl rfl (Nat.le_of_ble_eq_true rfl) (c_Md_goParallel ig (by omega) (by omega) hT hS hp) ?_
                      exact gm_ret (v := some (.int _)) k_Md_go rfl rfl trivial rfl ⟨rfl, rfl⟩
def gw (T : mw_A) (S : Int32) : Nat → gw_G
  | 0 => fun _ _ _ _ _ => none
  | n + 1 => fun p res K s fl => if gi p 2600 = true then gw_go T S (mw T S n) (gw T S n) p res K s fl else none
theorem c_Md_gw (n : Nat) : gw_IH l F a A (3 * n + 6) T S (gw T S n) := by
  induction n with
  | zero => exact fun _ _ _ _ _ _ _ _ h => by cases h
  | succ n ih =>
    intro dd p res v σ hd hT hS h
    unfold gw at h
    by_cases g1 : gi p 2600 = true
    · rw [if_pos g1] at h
      exact c_Md_go (c_Md_mw n) ih (by omega) (by omega) hT hS g1 (Or.inr trivial) h
    · rw [if_neg g1] at h
      cases h
end MD7
