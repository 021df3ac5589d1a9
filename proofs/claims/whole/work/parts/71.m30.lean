def SB (lim : Nat) (tw : Bool) (k P k2 P2 t : Nat) (what : Int32) (ni : Nat) (σ : gm_S) (σs : ck_S) : Prop := zPR lim σ.2 σs.2.2.2.1 k P ∧ (tw = true → zPR lim σ.2 σs.2.2.2.1 k2 P2 ∧ σs.2.2.1 10 = some P2 ∧ σ.2 12 k2 = Int32.ofNat ni ∧ k2 < 6) ∧ (tw = false → σs.2.2.1 10 = none) ∧ σs.2.2.1 0 = some t ∧ σs.2.2.1 9 = some P ∧ (∃ ρ, σs.2.2.2.1 t = some (tC ρ)) ∧ σs.1 11 = what ∧ σ.2 12 k = Int32.ofNat ni
def SN (tw : Bool) (k k2 N : Nat) (σ : gm_S) (σs : ck_S) : Prop := σ.1 51 = Int32.ofNat N ∧ σs.1 6 = Int32.ofNat N ∧ 1 ≤ N ∧ N ≤ 300 ∧ (∀ m, m < N → σ.2 52 (2 * m) = σs.2.1 1 m ∧ sOK (wI σ.2 k) (σs.2.1 1 m) ∧ (tw = true → σ.2 52 (2 * m + 1) = σs.2.1 2 m ∧ sOK (wI σ.2 k2) (σs.2.1 2 m)) ∧ (tw = false → σ.2 52 (2 * m + 1) = 0 ∧ σs.2.1 2 m = -2)) ∧ σ.2 53 0 = -1 ∧ (∀ z, 0 < z → z < N → ∃ j, j < z ∧ σ.2 53 z = Int32.ofNat j ∧ σs.2.1 3 z = Int32.ofNat j ∧ σ.2 54 z = σs.2.1 4 z)
def rF (σ σ' : gm_S) : Prop := (∀ j, (j < 39 ∨ 43 < j) → j ≠ 51 → j ≠ 55 → j ≠ 57 → j ≠ 58 → j ≠ 59 → σ'.1 j = σ.1 j) ∧ (∀ j, j ≠ 38 → j ≠ 52 → j ≠ 53 → j ≠ 54 → j ≠ 56 → σ'.2 j = σ.2 j)
def cF (t : Nat) (σs σs' : ck_S) : Prop := (∀ j, j ≠ 6 → j ≠ 7 → j ≠ 12 → j ≠ 13 → σs'.1 j = σs.1 j) ∧ σs'.2.2.1 = σs.2.2.1 ∧ (∀ q, q ≠ t → σs'.2.2.2.1 q = σs.2.2.2.1 q) ∧ (∃ ρ, σs'.2.2.2.1 t = some (tC ρ)) ∧ σs'.2.2.2.2 = σs.2.2.2.2
def FN (σ : gm_S) (σs : ck_S) : Prop := ∃ N L : Nat, N ≤ 300 ∧ L ≤ 300 ∧ σ.1 51 = Int32.ofNat N ∧ σs.1 6 = Int32.ofNat N ∧ σ.1 55 = Int32.ofNat L ∧ σs.1 7 = Int32.ofNat L ∧ ∀ i, i < L → σ.2 56 i = σs.2.1 5 i
theorem rF_tr {σ σ1 σ2 : gm_S} (h : rF σ σ1) (k : rF σ1 σ2) : rF σ σ2 := ⟨fun j a b c d e f => (k.1 j a b c d e f).trans (h.1 j a b c d e f), fun j a b c d e => (k.2 j a b c d e).trans (h.2 j a b c d e)⟩
theorem cF_tr {t : Nat} {σ σ1 σ2 : ck_S} (h : cF t σ σ1) (k : cF t σ1 σ2) : cF t σ σ2 := ⟨fun j a b c d => (k.1 j a b c d).trans (h.1 j a b c d), k.2.1.trans h.2.1, fun q hq => (k.2.2.1 q hq).trans (h.2.2.1 q hq), k.2.2.2.1, k.2.2.2.2.trans h.2.2.2.2⟩
section S3
variable {lim : Nat} {tw : Bool} {k P k2 P2 t ni : Nat} {what : Int32} {σ : gm_S} {σs : ck_S}
theorem SB_tr {σ' : gm_S} {σs' : ck_S} (h : SB lim tw k P k2 P2 t what ni σ σs) (hr : ∀ j, (11 ≤ j ∧ j ≤ 26) ∨ j = 49 → σ'.2 j = σ.2 j) (hc : cF t σs σs') : SB lim tw k P k2 P2 t what ni σ' σs' := by
  obtain ⟨h1, h2, h3, h4, h5, ⟨ρ, h6⟩, h7, h8⟩ := h
  obtain ⟨c1, c2, c3, c4, c5⟩ := hc
  have f : ∀ ci, ci ≠ 6 → eF ci σs.2.2.2.1 σs'.2.2.2.1 := by
    intro ci hci q fs hq
    have : q ≠ t := fun e => by
      rw [e, h6] at hq
      unfold tC at hq
      injection hq with hq
      injection hq with hq
      injection hq with hq _
      exact hci hq.symm
    rw [c3 q this]
    exact hq
  have fa : eFa lim σs.2.2.2.1 σs'.2.2.2.1 := by
    intro q n f hlq hq
    have : q ≠ t := fun e => by
      rw [e, h6] at hq
      unfold tC at hq
      cases hq
    rw [c3 q this]
    exact hq
  refine ⟨PR_fr (f 2 (by decide)) (f 3 (by decide)) fa hr h1, fun e => ?_, fun e => by rw [c2]; exact h3 e, by rw [c2]; exact h4, by rw [c2]; exact h5, c4, by rw [c1 11 (by decide) (by decide) (by decide) (by decide)]; exact h7, by rw [hr 12 (by omega)]; exact h8⟩
  obtain ⟨a1, a2, a3, a4⟩ := h2 e
  exact ⟨PR_fr (f 2 (by decide)) (f 3 (by decide)) fa hr a1, by rw [c2]; exact a2, by rw [hr 12 (by omega)]; exact a3, a4⟩
theorem stp (hB : SB lim tw k P k2 P2 t what ni σ σs) {N m s : Nat} (hN : SN tw k k2 N σ σs) (hm : m < N) (hw : what = -1 ∨ ∃ w, w < 26 ∧ what = Int32.ofNat w) (hn : ni ≤ 4) (hs : s < 2 ^ ni) :
    ∃ (o : Nat) (σ' : gm_S) (σs' : ck_S), o < 3 ∧ sp_Md_isIt (Int32.ofNat k) (if tw = true then -1 else what) (if tw = true then Int32.ofNat k2 else -1) (Int32.ofNat m) (Int32.ofNat s) σ = some (if o = 0 then 1 else 0, σ') ∧ (if tw = true then sp_Sk_goBoth (Int32.ofNat m) (Int32.ofNat s) σs else sp_Sk_goAlone (Int32.ofNat m) (Int32.ofNat s) σs) = some (Int32.ofNat o, σs') ∧ rK σ σ' ∧ cF t σs σs' ∧ σs'.1 6 = σs.1 6 ∧ σs'.1 7 = σs.1 7 ∧ σs'.2.1 = σs.2.1 ∧ (o = 1 → σ'.1 57 = 1 ∧ σ'.1 58 = σs'.1 12 ∧ sOK (wI σ.2 k) (σs'.1 12) ∧ (tw = true → σ'.1 59 = σs'.1 13 ∧ sOK (wI σ.2 k2) (σs'.1 13)) ∧ (tw = false → σ'.1 59 = 0 ∧ σs'.1 13 = -2)) ∧ (o = 2 → σ'.1 57 = 0) := by
  obtain ⟨h1, h2, h3, h4, h5, ⟨ρ, h6⟩, h7, h8⟩ := hB
  obtain ⟨n1, n2, n3, n4, n5, n6, n7⟩ := hN
  obtain ⟨m1, m2, m3, m4⟩ := n5 m hm
  have hset : ∀ q, bt (Int32.ofNat s) q = true → q < ni := by
    intro q hq
    rw [bt_ofN, Bool.and_eq_true] at hq
    apply Nat.lt_of_not_le
    intro hle
    have : s < 2 ^ q := Nat.lt_of_lt_of_le hs (Nat.pow_le_pow_right (by decide) hle)
    rw [Nat.testBit_lt_two_pow this] at hq
    cases hq.2
  have cf : ∀ (r' ρ' : Nat → Int32), (∀ j, j ≠ 12 → j ≠ 13 → r' j = σs.1 j) → cF t σs (r', σs.2.1, σs.2.2.1, eset σs.2.2.2.1 t (tC ρ'), σs.2.2.2.2) := fun r' ρ' hr => ⟨fun j _ _ a b => hr j a b, rfl, fun q hq => eset_ne hq, ⟨ρ', eset_eq⟩, rfl⟩
  cases tw with
  | false =>
    obtain ⟨o, σ', r', ρ', a1, a2, a3, a4, a5, a6, a7⟩ := isIt1 (ρ := ρ) h1 rfl h4 h5 h6 (by omega : m < 300) h7 hw m1 m2 h8 (by omega) hset
    refine ⟨o, σ', _, a1, ?_, ?_, a4, cf r' ρ' a5, a5 6 (by decide) (by decide), a5 7 (by decide) (by decide), rfl, fun ho => ?_, a7⟩
    · simp only [Bool.false_eq_true, if_false]
      exact a2
    · simp only [Bool.false_eq_true, if_false]
      exact a3
    · obtain ⟨q1, q2, q3, q4, q5⟩ := a6 ho
      exact ⟨q1, q2, q5, fun e => (by cases e), fun _ => ⟨q3, q4⟩⟩
  | true =>
    obtain ⟨b1, b2, b3, b4⟩ := h2 rfl
    obtain ⟨w1, w2⟩ := m3 rfl
    obtain ⟨o, σ', r', ρ', a1, a2, a3, a4, a5, a6, a7⟩ := isIt2 (ρ := ρ) h1 b1 rfl h4 h5 b2 h6 (by omega : m < 300) m1 w1 m2 w2 h8 b3 (by omega) hset b4
    refine ⟨o, σ', _, a1, ?_, ?_, a4, cf r' ρ' a5, a5 6 (by decide) (by decide), a5 7 (by decide) (by decide), rfl, fun ho => ?_, a7⟩
    · simp only [if_true]
      exact a2
    · simp only [if_true]
      exact a3
    · obtain ⟨q1, q2, q3, q4, q5⟩ := a6 ho
      exact ⟨q1, q2, q4, fun _ => ⟨q3, q5⟩, fun e => (by cases e)⟩
theorem seen2 {x y x' y' : Int32} (hx : x = x') (N : Nat) (hN : N ≤ 300) (h51 : σ.1 51 = Int32.ofNat N) (h6 : σs.1 6 = Int32.ofNat N) (h12 : σs.1 12 = x') (h13 : σs.1 13 = y') (hp : ∀ m, m < N → σ.2 52 (2 * m) = σs.2.1 1 m ∧ (σ.2 52 (2 * m + 1) = y ↔ σs.2.1 2 m = y')) : ∀ (d i f1 f2 : Nat), i + d = N → d < f1 → d < f2 → ∃ r : Bool, sp_Md_isSeen_2 f1 x y (Int32.ofNat i) σ = some (if r = true then 1 else 0, σ) ∧ sp_Sk_isNew_2 f2 (Int32.ofNat i) σs = some (if r = true then 0 else 1, σs) := by
  intro d
  induction d with
  | zero =>
    intro i f1 f2 hi h1 h2
    obtain ⟨f1, rfl⟩ : ∃ j, f1 = j + 1 := ⟨f1 - 1, by omega⟩
    obtain ⟨f2, rfl⟩ : ∃ j, f2 = j + 1 := ⟨f2 - 1, by omega⟩
    refine ⟨false, ?_, ?_⟩
    · unfold sp_Md_isSeen_2
      rw [h51, if_pos ((le_N (by omega) (by omega)).mpr (by omega))]
      rfl
    · unfold sp_Sk_isNew_2
      rw [h6, if_pos ((le_N (by omega) (by omega)).mpr (by omega))]
      rfl
  | succ d ih =>
    intro i f1 f2 hi h1 h2
    obtain ⟨f1, rfl⟩ : ∃ j, f1 = j + 1 := ⟨f1 - 1, by omega⟩
    obtain ⟨f2, rfl⟩ : ∃ j, f2 = j + 1 := ⟨f2 - 1, by omega⟩
    obtain ⟨r, r1, r2⟩ := ih (i + 1) f1 f2 (by omega) (by omega) (by omega)
    obtain ⟨p1, p2⟩ := hp i (by omega)
    have hix : (2 : Int32) * Int32.ofNat i = Int32.ofNat (2 * i) := by rw [show (2 : Int32) = Int32.ofNat 2 from rfl, ofN_mul]
    have hr : sp_Md_isSeen_2 (f1 + 1) x y (Int32.ofNat i) σ = (if σ.2 52 (2 * i) = x then (if σ.2 52 (2 * i + 1) = y then some (1, σ) else sp_Md_isSeen_2 f1 x y (Int32.ofNat (i + 1)) σ) else sp_Md_isSeen_2 f1 x y (Int32.ofNat (i + 1)) σ) := by
      conv => lhs; unfold sp_Md_isSeen_2
      rw [h51, if_neg (fun e => by have := (le_N (by omega) (by omega)).mp e; omega), hix, if_pos (gi_of (by omega : 2 * i < 600) (by decide)), cl_of (by omega), ofN_s, ofN_s, if_pos (gi_of (by omega : 2 * i + 1 < 600) (by decide)), cl_of (by omega)]
    have hc : sp_Sk_isNew_2 (f2 + 1) (Int32.ofNat i) σs = (if σs.2.1 1 i = x' then (if σs.2.1 2 i = y' then some (0, σs) else sp_Sk_isNew_2 f2 (Int32.ofNat (i + 1)) σs) else sp_Sk_isNew_2 f2 (Int32.ofNat (i + 1)) σs) := by
      conv => lhs; unfold sp_Sk_isNew_2
      rw [h6, if_neg (fun e => by have := (le_N (by omega) (by omega)).mp e; omega), if_neg (fun e => by have := (le_N (by decide) (by omega)).mp (show Int32.ofNat 300 ≤ Int32.ofNat i from e); omega), if_pos (gi_of (by omega : i < 300) (by decide)), cl_of (by omega), h12, h13, ofN_s]
    rw [hr, hc, p1, hx]
    by_cases e1 : σs.2.1 1 i = x'
    · rw [if_pos e1, if_pos e1]
      by_cases e2 : σs.2.1 2 i = y'
      · rw [if_pos (p2.mpr e2), if_pos e2]
        exact ⟨true, rfl, rfl⟩
      · rw [if_neg (fun e => e2 (p2.mp e)), if_neg e2]
        exact ⟨r, by rw [← hx]; exact r1, r2⟩
    · rw [if_neg e1, if_neg e1]
      exact ⟨r, by rw [← hx]; exact r1, r2⟩
end S3
