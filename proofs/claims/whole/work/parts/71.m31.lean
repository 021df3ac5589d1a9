section S4
variable {lim : Nat} {tw : Bool} {k P k2 P2 t ni : Nat} {what : Int32}
theorem sh_ni (hn : ni ≤ 4) : (1 : Int32) <<< (Int32.ofNat ni &&& 31) = Int32.ofNat (2 ^ ni) := by
  have h : ∀ n : Fin 5, (1 : Int32) <<< (Int32.ofNat n.1 &&& 31) = Int32.ofNat (2 ^ n.1) := by decide
  exact h ⟨ni, by omega⟩
theorem pw4 (hn : ni ≤ 4) : 2 ^ ni ≤ 16 := by
  have : (2 : Nat) ^ ni ≤ 2 ^ 4 := Nat.pow_le_pow_right (by decide) hn
  omega
theorem rK_F {σ σ' : gm_S} (h : rK σ σ') : rF σ σ' := ⟨fun j a _ _ d e f => h.1 j a d e f, fun j a _ _ _ _ => h.2 j a⟩
theorem rF_A {σ σ' : gm_S} (h : rF σ σ') : ∀ j, (11 ≤ j ∧ j ≤ 26) ∨ j = 49 → σ'.2 j = σ.2 j := fun j hj => h.2 j (by omega) (by omega) (by omega) (by omega) (by omega)
theorem wI_F {σ σ' : gm_S} (h : rF σ σ') {k : Nat} : wI σ'.2 k = wI σ.2 k := by
  unfold wI
  rw [rF_A h 25 (by omega), rF_A h 16 (by omega)]
theorem keep2 {σ : gm_S} {σs : ck_S} {N m s : Nat} (hN : SN tw k k2 N σ σs) (hN3 : N < 300) (hm : m < N) (h58 : σ.1 58 = σs.1 12) (hk1 : sOK (wI σ.2 k) (σs.1 12)) (ht : tw = true → σ.1 59 = σs.1 13 ∧ sOK (wI σ.2 k2) (σs.1 13)) (hf : tw = false → σ.1 59 = 0 ∧ σs.1 13 = -2) :
    ∃ σ' σs', sp_Md_keep (σ.1 58) (σ.1 59) (Int32.ofNat m) (Int32.ofNat s) σ = some σ' ∧ sp_Sk_keepState (Int32.ofNat m) (Int32.ofNat s) σs = some σs' ∧ SN tw k k2 (N + 1) σ' σs' ∧ rF σ σ' ∧ (∀ j, j ≠ 6 → σs'.1 j = σs.1 j) ∧ σs'.2.2 = σs.2.2 ∧ σ'.1 55 = σ.1 55 := by
  obtain ⟨n1, n2, n3, n4, n5, n6, n7⟩ := hN
  have hix : (2 : Int32) * Int32.ofNat N = Int32.ofNat (2 * N) := by rw [show (2 : Int32) = Int32.ofNat 2 from rfl, ofN_mul]
  refine ⟨(upd σ.1 51 (Int32.ofNat (N + 1)), gm_up (gm_up (gm_up (gm_up σ.2 52 (upd (σ.2 52) (2 * N) (σ.1 58))) 52 (upd (upd (σ.2 52) (2 * N) (σ.1 58)) (2 * N + 1) (σ.1 59))) 53 (upd (σ.2 53) N (Int32.ofNat m))) 54 (upd (σ.2 54) N (Int32.ofNat s))), (upd σs.1 6 (Int32.ofNat (N + 1)), gm_up (gm_up (gm_up (gm_up σs.2.1 1 (upd (σs.2.1 1) N (σs.1 12))) 2 (upd (σs.2.1 2) N (σs.1 13))) 3 (upd (σs.2.1 3) N (Int32.ofNat m))) 4 (upd (σs.2.1 4) N (Int32.ofNat s)), σs.2.2), ?_, ?_, ?_, ?_, fun j hj => upd_ne hj, rfl, rfl⟩
  · unfold sp_Md_keep
    rw [n1, hix, if_pos (gi_of (by omega : 2 * N < 600) (by decide)), ofN_s, if_pos (gi_of (by omega : 2 * N + 1 < 600) (by decide)), if_pos (gi_of hN3 (by decide)), cl_of (by omega), cl_of (by omega), cl_of (by omega), ofN_s]
  · unfold sp_Sk_keepState
    rw [n2, if_pos (gi_of hN3 (by decide)), cl_of (by omega), ofN_s]
  · have wk : wI (gm_up (gm_up (gm_up (gm_up σ.2 52 (upd (σ.2 52) (2 * N) (σ.1 58))) 52 (upd (upd (σ.2 52) (2 * N) (σ.1 58)) (2 * N + 1) (σ.1 59))) 53 (upd (σ.2 53) N (Int32.ofNat m))) 54 (upd (σ.2 54) N (Int32.ofNat s))) k = wI σ.2 k := rfl
    have wk2 : wI (gm_up (gm_up (gm_up (gm_up σ.2 52 (upd (σ.2 52) (2 * N) (σ.1 58))) 52 (upd (upd (σ.2 52) (2 * N) (σ.1 58)) (2 * N + 1) (σ.1 59))) 53 (upd (σ.2 53) N (Int32.ofNat m))) 54 (upd (σ.2 54) N (Int32.ofNat s))) k2 = wI σ.2 k2 := rfl
    refine ⟨rfl, rfl, by omega, by omega, fun i hi => ?_, ?_, fun z h0 hz => ?_⟩
    · simp only
      rw [wk, wk2]
      show upd (upd (σ.2 52) (2 * N) (σ.1 58)) (2 * N + 1) (σ.1 59) (2 * i) = upd (σs.2.1 1) N (σs.1 12) i ∧ sOK (wI σ.2 k) (upd (σs.2.1 1) N (σs.1 12) i) ∧ (tw = true → upd (upd (σ.2 52) (2 * N) (σ.1 58)) (2 * N + 1) (σ.1 59) (2 * i + 1) = upd (σs.2.1 2) N (σs.1 13) i ∧ sOK (wI σ.2 k2) (upd (σs.2.1 2) N (σs.1 13) i)) ∧ (tw = false → upd (upd (σ.2 52) (2 * N) (σ.1 58)) (2 * N + 1) (σ.1 59) (2 * i + 1) = 0 ∧ upd (σs.2.1 2) N (σs.1 13) i = -2)
      by_cases hiN : i = N
      · subst hiN
        rw [upd_ne (by omega : 2 * i ≠ 2 * i + 1), upd_eq, upd_eq, upd_eq, upd_eq]
        exact ⟨h58, hk1, ht, hf⟩
      · rw [upd_ne (by omega : 2 * i ≠ 2 * N + 1), upd_ne (by omega : 2 * i ≠ 2 * N), upd_ne hiN, upd_ne (by omega : 2 * i + 1 ≠ 2 * N + 1), upd_ne (by omega : 2 * i + 1 ≠ 2 * N), upd_ne hiN]
        exact n5 i (by omega)
    · show upd (σ.2 53) N (Int32.ofNat m) 0 = -1
      rw [upd_ne (by omega)]
      exact n6
    · show ∃ j, j < z ∧ upd (σ.2 53) N (Int32.ofNat m) z = Int32.ofNat j ∧ upd (σs.2.1 3) N (Int32.ofNat m) z = Int32.ofNat j ∧ upd (σ.2 54) N (Int32.ofNat s) z = upd (σs.2.1 4) N (Int32.ofNat s) z
      by_cases hzN : z = N
      · subst hzN
        exact ⟨m, hm, upd_eq, upd_eq, by rw [upd_eq, upd_eq]⟩
      · rw [upd_ne hzN, upd_ne hzN, upd_ne hzN, upd_ne hzN]
        exact n7 z h0 (by omega)
  · refine ⟨fun j a b c d e f => ?_, fun j a b c d e => ?_⟩
    · exact upd_ne b
    · show gm_up (gm_up (gm_up (gm_up σ.2 52 _) 52 _) 53 _) 54 _ j = _
      unfold gm_up
      rw [if_neg d, if_neg c, if_neg b, if_neg b]
theorem sk_in {kk : Int32 → Int32 → Int32 → Int32 → Int32 → gm_S → Option (Int32 × gm_S)} {kc : Option Nat → Option Nat → Int32 → Int32 → Int32 → Int32 → ck_S → Option (Int32 × ck_S)} {vo : Option Nat} (hw : what = -1 ∨ ∃ w, w < 26 ∧ what = Int32.ofNat w) (hn : ni ≤ 4) (hk7 : k < 6) {M m : Nat} (hM : M ≤ 300) {va : Option Nat} {vx : Int32} :
    ∀ (d s N f1 f2 : Nat) (σ : gm_S) (σs : ck_S), s + d = 2 ^ ni → d < f1 → d < f2 → SB lim tw k P k2 P2 t what ni σ σs → SN tw k k2 N σ σs → m < N → N ≤ M → σ.1 55 = 0 → σs.1 7 = 0 →
    (∃ r σ' σs', sp_Md_seek_49 kk f1 (Int32.ofNat k) (if tw = true then -1 else what) (if tw = true then Int32.ofNat k2 else -1) (Int32.ofNat M) (Int32.ofNat m) (Int32.ofNat s) σ = some (r, σ') ∧ sp_Sk_seek_77 kc f2 va vo vx (Int32.ofNat M) (Int32.ofNat (2 ^ ni)) (Int32.ofNat m) (Int32.ofNat s) σs = some (r, σs') ∧ FN σ' σs' ∧ rF σ σ' ∧ cF t σs σs') ∨
    (∃ N' σ' σs', N ≤ N' ∧ N' ≤ M ∧ sp_Md_seek_49 kk f1 (Int32.ofNat k) (if tw = true then -1 else what) (if tw = true then Int32.ofNat k2 else -1) (Int32.ofNat M) (Int32.ofNat m) (Int32.ofNat s) σ = kk (Int32.ofNat k) (if tw = true then -1 else what) (if tw = true then Int32.ofNat k2 else -1) (Int32.ofNat M) (Int32.ofNat (m + 1)) σ' ∧ sp_Sk_seek_77 kc f2 va vo vx (Int32.ofNat M) (Int32.ofNat (2 ^ ni)) (Int32.ofNat m) (Int32.ofNat s) σs = kc va vo vx (Int32.ofNat M) (Int32.ofNat (2 ^ ni)) (Int32.ofNat (m + 1)) σs' ∧ SB lim tw k P k2 P2 t what ni σ' σs' ∧ SN tw k k2 N' σ' σs' ∧ σ'.1 55 = 0 ∧ σs'.1 7 = 0 ∧ rF σ σ' ∧ cF t σs σs') := by
  have hpw := pw4 hn
  intro d
  induction d with
  | zero =>
    intro s N f1 f2 σ σs hs h1 h2 hB hN hm hNM h55 h7
    obtain ⟨f1, rfl⟩ : ∃ j, f1 = j + 1 := ⟨f1 - 1, by omega⟩
    obtain ⟨f2, rfl⟩ : ∃ j, f2 = j + 1 := ⟨f2 - 1, by omega⟩
    refine Or.inr ⟨N, σ, σs, Nat.le_refl _, hNM, ?_, ?_, hB, hN, h55, h7, ⟨fun _ _ _ _ _ _ _ => rfl, fun _ _ _ _ _ _ => rfl⟩, ⟨fun _ _ _ _ _ => rfl, rfl, fun _ _ => rfl, hB.2.2.2.2.2.1, rfl⟩⟩
    · unfold sp_Md_seek_49
      rw [if_pos (gi_of (by omega : k < 7) (by decide)), cl_of (by omega), hB.2.2.2.2.2.2.2, sh_ni hn, if_pos ((le_N (by omega) (by omega)).mpr (by omega)), ofN_s]
    · unfold sp_Sk_seek_77
      rw [if_pos ((le_N (by omega) (by omega)).mpr (by omega)), ofN_s]
  | succ d ih =>
    intro s N f1 f2 σ σs hs h1 h2 hB hN hm hNM h55 h7
    obtain ⟨f1, rfl⟩ : ∃ j, f1 = j + 1 := ⟨f1 - 1, by omega⟩
    obtain ⟨f2, rfl⟩ : ∃ j, f2 = j + 1 := ⟨f2 - 1, by omega⟩
    obtain ⟨o, σ1, σs1, o1, o2, o3, o4, o5, o6, o7, o8, o9, o10⟩ := stp hB hN hm hw hn (by omega : s < 2 ^ ni)
    have hnlt : ¬ ((1 : Int32) <<< (Int32.ofNat ni &&& 31) ≤ Int32.ofNat s) := by
      rw [sh_ni hn]
      intro e
      have := (le_N (by omega) (by omega)).mp e
      omega
    have hr : ∀ X, (if (if o = 0 then (1 : Int32) else 0) = 0 then (if (σ1.1 57) = 0 then sp_Md_seek_49 kk f1 (Int32.ofNat k) (if tw = true then -1 else what) (if tw = true then Int32.ofNat k2 else -1) (Int32.ofNat M) (Int32.ofNat m) (Int32.ofNat (s + 1)) σ1 else (match sp_Md_isSeen (σ1.1 58) (σ1.1 59) σ1 with
        | none => none
        | some y9 => (if y9.1 = 0 then (if (y9.2.1 51) = (Int32.ofNat M) then some (2, y9.2) else (match sp_Md_keep (y9.2.1 58) (y9.2.1 59) (Int32.ofNat m) (Int32.ofNat s) y9.2 with
          | none => none
          | some y12 => sp_Md_seek_49 kk f1 (Int32.ofNat k) (if tw = true then -1 else what) (if tw = true then Int32.ofNat k2 else -1) (Int32.ofNat M) (Int32.ofNat m) (Int32.ofNat (s + 1)) y12)) else sp_Md_seek_49 kk f1 (Int32.ofNat k) (if tw = true then -1 else what) (if tw = true then Int32.ofNat k2 else -1) (Int32.ofNat M) (Int32.ofNat m) (Int32.ofNat (s + 1)) y9.2))) else (match sp_Md_findWay (Int32.ofNat m) (Int32.ofNat s) σ1 with
        | none => none
        | some y13 => some (1, y13))) = X → sp_Md_seek_49 kk (f1 + 1) (Int32.ofNat k) (if tw = true then -1 else what) (if tw = true then Int32.ofNat k2 else -1) (Int32.ofNat M) (Int32.ofNat m) (Int32.ofNat s) σ = X := by
      intro X hX
      conv => lhs; unfold sp_Md_seek_49
      rw [if_pos (gi_of (by omega : k < 7) (by decide)), cl_of (by omega), hB.2.2.2.2.2.2.2, if_neg hnlt, o2]
      simp only
      rw [ofN_s]
      exact hX
    have hc : ∀ X, (if Int32.ofNat o = 0 then (match sp_Sk_keepRun (Int32.ofNat m) (Int32.ofNat s) σs1 with
        | none => none
        | some y15 => some (1, y15)) else (if Int32.ofNat o = 1 then (match sp_Sk_isNew σs1 with
        | none => none
        | some y10 => (if y10.1 = 0 then sp_Sk_seek_77 kc f2 va vo vx (Int32.ofNat M) (Int32.ofNat (2 ^ ni)) (Int32.ofNat m) (Int32.ofNat (s + 1)) y10.2 else (if (Int32.ofNat M) ≤ (y10.2.1 6) then some (2, y10.2) else (if (y10.2.1 6) < 300 then (match sp_Sk_keepState (Int32.ofNat m) (Int32.ofNat s) y10.2 with
          | none => none
          | some y14 => sp_Sk_seek_77 kc f2 va vo vx (Int32.ofNat M) (Int32.ofNat (2 ^ ni)) (Int32.ofNat m) (Int32.ofNat (s + 1)) y14) else some (2, y10.2))))) else sp_Sk_seek_77 kc f2 va vo vx (Int32.ofNat M) (Int32.ofNat (2 ^ ni)) (Int32.ofNat m) (Int32.ofNat (s + 1)) σs1)) = X → sp_Sk_seek_77 kc (f2 + 1) va vo vx (Int32.ofNat M) (Int32.ofNat (2 ^ ni)) (Int32.ofNat m) (Int32.ofNat s) σs = X := by
      intro X hX
      conv => lhs; unfold sp_Sk_seek_77
      rw [if_neg (fun e => by have := (le_N (by omega) (by omega)).mp e; omega), ofN_s]
      cases tw with
      | false =>
        rw [hB.2.2.1 rfl]
        simp only [Bool.false_eq_true, if_false] at o3
        simp only
        rw [o3]
        exact hX
      | true =>
        rw [(hB.2.1 rfl).2.1]
        simp only [if_true] at o3
        simp only
        rw [o3]
        exact hX
    have hB1 : SB lim tw k P k2 P2 t what ni σ1 σs1 := SB_tr hB (rF_A (rK_F o4)) o5
    have hN1 : SN tw k k2 N σ1 σs1 := by
      obtain ⟨n1, n2, n3, n4, n5, n6, n7⟩ := hN
      have hwk := wI_F (rK_F o4) (k := k)
      have hwk2 := wI_F (rK_F o4) (k := k2)
      refine ⟨by rw [o4.1 51 (by omega) (by decide) (by decide) (by decide)]; exact n1, by rw [o6]; exact n2, n3, n4, ?_, by rw [o4.2 53 (by decide)]; exact n6, ?_⟩
      · rw [o8, o4.2 52 (by decide), hwk, hwk2]; exact n5
      · rw [o8, o4.2 53 (by decide), o4.2 54 (by decide)]; exact n7
    have h551 : σ1.1 55 = 0 := by rw [o4.1 55 (by omega) (by decide) (by decide) (by decide)]; exact h55
    have h71 : σs1.1 7 = 0 := by rw [o7]; exact h7
    have go : sp_Md_seek_49 kk (f1 + 1) (Int32.ofNat k) (if tw = true then -1 else what) (if tw = true then Int32.ofNat k2 else -1) (Int32.ofNat M) (Int32.ofNat m) (Int32.ofNat s) σ = sp_Md_seek_49 kk f1 (Int32.ofNat k) (if tw = true then -1 else what) (if tw = true then Int32.ofNat k2 else -1) (Int32.ofNat M) (Int32.ofNat m) (Int32.ofNat (s + 1)) σ1 → sp_Sk_seek_77 kc (f2 + 1) va vo vx (Int32.ofNat M) (Int32.ofNat (2 ^ ni)) (Int32.ofNat m) (Int32.ofNat s) σs = sp_Sk_seek_77 kc f2 va vo vx (Int32.ofNat M) (Int32.ofNat (2 ^ ni)) (Int32.ofNat m) (Int32.ofNat (s + 1)) σs1 → _ := fun e1 e2 => by
      have := ih (s + 1) N f1 f2 σ1 σs1 (by omega) (by omega) (by omega) hB1 hN1 hm hNM h551 h71
      rw [← e1, ← e2] at this
      exact (this.elim (fun ⟨r, σ', σs', q1, q2, q3, q4, q5⟩ => Or.inl ⟨r, σ', σs', q1, q2, q3, rF_tr (rK_F o4) q4, cF_tr o5 q5⟩) (fun ⟨N', σ', σs', q1, q2, q3, q4, q5, q6, q7, q8, q9, q10⟩ => Or.inr ⟨N', σ', σs', q1, q2, q3, q4, q5, q6, q7, q8, rF_tr (rK_F o4) q9, cF_tr o5 q10⟩) : (∃ r σ' σs', sp_Md_seek_49 kk (f1 + 1) (Int32.ofNat k) (if tw = true then -1 else what) (if tw = true then Int32.ofNat k2 else -1) (Int32.ofNat M) (Int32.ofNat m) (Int32.ofNat s) σ = some (r, σ') ∧ sp_Sk_seek_77 kc (f2 + 1) va vo vx (Int32.ofNat M) (Int32.ofNat (2 ^ ni)) (Int32.ofNat m) (Int32.ofNat s) σs = some (r, σs') ∧ FN σ' σs' ∧ rF σ σ' ∧ cF t σs σs') ∨
    (∃ N' σ' σs', N ≤ N' ∧ N' ≤ M ∧ sp_Md_seek_49 kk (f1 + 1) (Int32.ofNat k) (if tw = true then -1 else what) (if tw = true then Int32.ofNat k2 else -1) (Int32.ofNat M) (Int32.ofNat m) (Int32.ofNat s) σ = kk (Int32.ofNat k) (if tw = true then -1 else what) (if tw = true then Int32.ofNat k2 else -1) (Int32.ofNat M) (Int32.ofNat (m + 1)) σ' ∧ sp_Sk_seek_77 kc (f2 + 1) va vo vx (Int32.ofNat M) (Int32.ofNat (2 ^ ni)) (Int32.ofNat m) (Int32.ofNat s) σs = kc va vo vx (Int32.ofNat M) (Int32.ofNat (2 ^ ni)) (Int32.ofNat (m + 1)) σs' ∧ SB lim tw k P k2 P2 t what ni σ' σs' ∧ SN tw k k2 N' σ' σs' ∧ σ'.1 55 = 0 ∧ σs'.1 7 = 0 ∧ rF σ σ' ∧ cF t σs σs'))
    have ho3 : o = 0 ∨ o = 1 ∨ o = 2 := by omega
    rcases ho3 with ho | ho | ho
    · -- what is sought
      subst ho
      obtain ⟨n1, n2, n3, n4, n5, n6, n7⟩ := hN1
      obtain ⟨L, W, R, w1, w2, w3, w4⟩ := way_run (σ := σ1) (σs := σs1) (y := m) (set := Int32.ofNat s) hm n4 n6 n7
      refine Or.inl ⟨1, (upd σ1.1 55 (Int32.ofNat L), gm_up σ1.2 56 W), (upd σs1.1 7 (Int32.ofNat L), gm_up σs1.2.1 5 R, σs1.2.2), hr _ ?_, hc _ ?_, ⟨N, L, n4, w1, ?_, ?_, rfl, rfl, ?_⟩, rF_tr (rK_F o4) ⟨fun j a b c d e f => upd_ne c, fun j a b c d e => if_neg e⟩, cF_tr o5 ⟨fun j a b c d => upd_ne b, rfl, fun _ _ => rfl, hB1.2.2.2.2.2.1, rfl⟩⟩
      · rw [if_pos rfl, if_neg (by decide), w2]
      · rw [if_pos (by decide), w3]
      · exact n1
      · exact n2
      · intro i hi
        exact w4 i hi
    · subst ho
      obtain ⟨l1, l2, l3, l4, l5⟩ := o9 rfl
      have hnew : ∃ r : Bool, sp_Md_isSeen (σ1.1 58) (σ1.1 59) σ1 = some (if r = true then 1 else 0, σ1) ∧ sp_Sk_isNew σs1 = some (if r = true then 0 else 1, σs1) := by
        obtain ⟨n1, n2, n3, n4, n5, n6, n7⟩ := hN1
        refine seen2 (y := σ1.1 59) (y' := σs1.1 13) l2 N n4 n1 n2 rfl rfl (fun i hi => ⟨(n5 i hi).1, ?_⟩) N 0 2601 2601 (by omega) (by omega) (by omega)
        cases tw with
        | false =>
          obtain ⟨a1, a2⟩ := (n5 i hi).2.2.2 rfl
          obtain ⟨b1, b2⟩ := l5 rfl
          rw [a1, a2, b1, b2]
          exact ⟨fun _ => rfl, fun _ => rfl⟩
        | true =>
          obtain ⟨a1, a2⟩ := (n5 i hi).2.2.1 rfl
          obtain ⟨b1, b2⟩ := l4 rfl
          rw [a1, b1]
      obtain ⟨r, r1, r2⟩ := hnew
      have e57 : ¬ (σ1.1 57 = 0) := by rw [l1]; decide
      have n1 := hN1.1
      have n2 := hN1.2.1
      have n4 := hN1.2.2.2.1
      cases r with
      | true =>
        refine go (hr _ ?_) (hc _ ?_)
        · rw [if_pos (by decide), if_neg e57, r1]
          rfl
        · rw [if_neg (by decide), if_pos (by decide), r2]
          rfl
      | false =>
        by_cases hNM2 : N = M
        · refine Or.inl ⟨2, σ1, σs1, hr _ ?_, hc _ ?_, ⟨N, 0, n4, by omega, n1, n2, by rw [h551]; rfl, by rw [h71]; rfl, fun i hi => by omega⟩, rK_F o4, o5⟩
          · rw [if_pos (by decide), if_neg e57, r1]
            simp only [Bool.false_eq_true, if_false]
            rw [if_pos trivial, n1, if_pos (by rw [hNM2])]
          · rw [if_neg (by decide), if_pos (by decide), r2]
            simp only [Bool.false_eq_true, if_false]
            rw [if_neg (by decide), n2, if_pos ((le_N (by omega) (by omega)).mpr (by omega))]
        · have hN3 : N < 300 := by omega
          obtain ⟨σ2, σs2, p1, p2, p3, p4, p5, p6, p7⟩ := keep2 (s := s) hN1 hN3 hm l2 (by rw [wI_F (rK_F o4)]; exact l3) (fun e => by rw [wI_F (rK_F o4)]; exact l4 e) l5
          have hcf2 : cF t σs1 σs2 := ⟨fun j a _ _ _ => p5 j a, by rw [p6], fun q _ => by rw [p6], by rw [p6]; exact hB1.2.2.2.2.2.1, by rw [p6]⟩
          have hB2 : SB lim tw k P k2 P2 t what ni σ2 σs2 := SB_tr hB1 (rF_A p4) hcf2
          have key := ih (s + 1) (N + 1) f1 f2 σ2 σs2 (by omega) (by omega) (by omega) hB2 p3 (by omega) (by omega) (by rw [p7]; exact h551) (by rw [p5 7 (by decide)]; exact h71)
          have e1 : sp_Md_seek_49 kk (f1 + 1) (Int32.ofNat k) (if tw = true then -1 else what) (if tw = true then Int32.ofNat k2 else -1) (Int32.ofNat M) (Int32.ofNat m) (Int32.ofNat s) σ = sp_Md_seek_49 kk f1 (Int32.ofNat k) (if tw = true then -1 else what) (if tw = true then Int32.ofNat k2 else -1) (Int32.ofNat M) (Int32.ofNat m) (Int32.ofNat (s + 1)) σ2 := by
            refine hr _ ?_
            rw [if_pos (by decide), if_neg e57, r1]
            simp only [Bool.false_eq_true, if_false]
            rw [if_pos trivial, n1, if_neg (fun e => hNM2 ((eq_N (by omega) (by omega)).mp e)), p1]
          have e2 : sp_Sk_seek_77 kc (f2 + 1) va vo vx (Int32.ofNat M) (Int32.ofNat (2 ^ ni)) (Int32.ofNat m) (Int32.ofNat s) σs = sp_Sk_seek_77 kc f2 va vo vx (Int32.ofNat M) (Int32.ofNat (2 ^ ni)) (Int32.ofNat m) (Int32.ofNat (s + 1)) σs2 := by
            refine hc _ ?_
            rw [if_neg (by decide), if_pos (by decide), r2]
            simp only [Bool.false_eq_true, if_false]
            rw [if_neg (by decide), n2, if_neg (fun e => by have := (le_N (by omega) (by omega)).mp e; omega), if_pos (show Int32.ofNat N < 300 from (lt_N (b := 300) (by omega) (by decide)).mpr hN3), p2]
          rw [e1, e2]
          rcases key with ⟨r, σ', σs', q1, q2, q3, q4, q5⟩ | ⟨N', σ', σs', q1, q2, q3, q4, q5, q6, q7, q8, q9, q10⟩
          · exact Or.inl ⟨r, σ', σs', q1, q2, q3, rF_tr (rK_F o4) (rF_tr p4 q4), cF_tr o5 (cF_tr hcf2 q5)⟩
          · exact Or.inr ⟨N', σ', σs', by omega, q2, q3, q4, q5, q6, q7, q8, rF_tr (rK_F o4) (rF_tr p4 q9), cF_tr o5 (cF_tr hcf2 q10)⟩
    · subst ho
      refine go (hr _ ?_) (hc _ ?_)
      · rw [if_pos (by decide), if_pos (o10 rfl)]
      · rw [if_neg (by decide), if_neg (by decide)]
theorem sk_out {vo : Option Nat} (hw : what = -1 ∨ ∃ w, w < 26 ∧ what = Int32.ofNat w) (hn : ni ≤ 4) (hk7 : k < 6) {M : Nat} (hM : M ≤ 300) {va : Option Nat} {vx : Int32} :
    ∀ (d m N f1 f2 : Nat) (σ : gm_S) (σs : ck_S), m + d = 301 → d < f1 → d < f2 → SB lim tw k P k2 P2 t what ni σ σs → SN tw k k2 N σ σs → N ≤ M → σ.1 55 = 0 → σs.1 7 = 0 → m ≤ N →
    ∃ r σ' σs', sp_Md_seek_37 f1 (Int32.ofNat k) (if tw = true then -1 else what) (if tw = true then Int32.ofNat k2 else -1) (Int32.ofNat M) (Int32.ofNat m) σ = some (r, σ') ∧ sp_Sk_seek_57 f2 va vo vx (Int32.ofNat M) (Int32.ofNat (2 ^ ni)) (Int32.ofNat m) σs = some (r, σs') ∧ FN σ' σs' ∧ rF σ σ' ∧ cF t σs σs' := by
  have hpw := pw4 hn
  intro d
  induction d with
  | zero =>
    intro m N f1 f2 σ σs hs h1 h2 hB hN hNM h55 h7 hmN
    omega
  | succ d ih =>
    intro m N f1 f2 σ σs hs h1 h2 hB hN hNM h55 h7 hmN
    obtain ⟨f1, rfl⟩ : ∃ j, f1 = j + 1 := ⟨f1 - 1, by omega⟩
    obtain ⟨f2, rfl⟩ : ∃ j, f2 = j + 1 := ⟨f2 - 1, by omega⟩
    have n1 := hN.1
    have n2 := hN.2.1
    have n4 := hN.2.2.2.1
    by_cases hmm : m = N
    · refine ⟨0, σ, σs, ?_, ?_, ⟨N, 0, n4, by omega, n1, n2, by rw [h55]; rfl, by rw [h7]; rfl, fun i hi => by omega⟩, ⟨fun _ _ _ _ _ _ _ => rfl, fun _ _ _ _ _ _ => rfl⟩, ⟨fun _ _ _ _ _ => rfl, rfl, fun _ _ => rfl, hB.2.2.2.2.2.1, rfl⟩⟩
      · unfold sp_Md_seek_37
        rw [n1, if_pos ((le_N (by omega) (by omega)).mpr (by omega))]
      · unfold sp_Sk_seek_57
        rw [n2, if_pos ((le_N (by omega) (by omega)).mpr (by omega))]
    · have hlt : m < N := by omega
      have e1 : sp_Md_seek_37 (f1 + 1) (Int32.ofNat k) (if tw = true then -1 else what) (if tw = true then Int32.ofNat k2 else -1) (Int32.ofNat M) (Int32.ofNat m) σ = sp_Md_seek_49 (sp_Md_seek_37 f1) 2601 (Int32.ofNat k) (if tw = true then -1 else what) (if tw = true then Int32.ofNat k2 else -1) (Int32.ofNat M) (Int32.ofNat m) (Int32.ofNat 0) σ := by
        conv => lhs; unfold sp_Md_seek_37
        rw [n1, if_neg (fun e => by have := (le_N (by omega) (by omega)).mp e; omega)]
        rfl
      have e2 : sp_Sk_seek_57 (f2 + 1) va vo vx (Int32.ofNat M) (Int32.ofNat (2 ^ ni)) (Int32.ofNat m) σs = sp_Sk_seek_77 (sp_Sk_seek_57 f2) 2601 va vo vx (Int32.ofNat M) (Int32.ofNat (2 ^ ni)) (Int32.ofNat m) (Int32.ofNat 0) σs := by
        conv => lhs; unfold sp_Sk_seek_57
        rw [n2, if_neg (fun e => by have := (le_N (by omega) (by omega)).mp e; omega), if_neg (fun e => by have := (le_N (by decide) (by omega)).mp (show Int32.ofNat 300 ≤ Int32.ofNat m from e); omega)]
        rfl
      rw [e1, e2]
      rcases sk_in (kk := sp_Md_seek_37 f1) (kc := sp_Sk_seek_57 f2) (vo := vo) (va := va) (vx := vx) hw hn hk7 hM (m := m) (2 ^ ni) 0 N 2601 2601 σ σs (by omega) (by omega) (by omega) hB hN hlt hNM h55 h7 with ⟨r, σ', σs', q⟩ | ⟨N', σ', σs', q1, q2, q3, q4, q5, q6, q7, q8, q9, q10⟩
      · exact ⟨r, σ', σs', q⟩
      · obtain ⟨r, σ2, σs2, p1, p2, p3, p4, p5⟩ := ih (m + 1) N' f1 f2 σ' σs' (by omega) (by omega) (by omega) q5 q6 q2 q7 q8 (by omega)
        exact ⟨r, σ2, σs2, by rw [q3]; exact p1, by rw [q4]; exact p2, p3, rF_tr q9 p4, cF_tr q10 p5⟩
end S4
