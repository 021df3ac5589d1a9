section Q5
variable {sz at_ dp lc tr pr pc sc pt : Nat} {σ : gm_S} {c : ck_S} {kd sep : Int32} {F : gm_S → Option (Int32 × gm_S)} {g : ck_S → Option (Option Nat × ck_S)}
theorem rL_end {m at1 q : Nat} {v2 : Int32} {pc1 sc1 pt1 : Nat} {σ1 : gm_S} {c1 : ck_S} (h : QR sz at1 dp lc tr pr pc1 sc1 pt1 σ1 c1) (hp : sv sz at1 σ1 ≠ sep) : rL sep F (m + 1) (Int32.ofNat q) v2 σ1 = rEnd q σ1 := by
  unfold rL
  rw [see_eq h]
  simp only
  rw [if_neg hp]
  rfl
theorem loop_all {h0 q x : Nat} (hkd : kd = 9 ∨ kd = 10) (hx : sep = Int32.ofNat x) (hx1 : 33 ≤ x) (hx2 : x ≤ 126) (htr : tr ≤ 14) (hd : dp ≤ 12) (hW : CW sz at_ dp lc tr pc sc c) (hpt : pt ≤ 5 * at_ + 4)
    (hF : ∀ at1 pc1 sc1 pt1 σ1 c1, QR sz at1 dp lc tr pr pc1 sc1 pt1 σ1 c1 → pt1 ≤ 5 * at1 + 4 → JUo 1 h0 sz at1 dp lc tr pr pc1 sc1 pt1 σ1 c1 (F σ1) (g c1))
    (hg : ∀ at1 pc1 sc1 c1, CW sz at1 dp lc tr pc1 sc1 c1 → (dp = 13 → c1.2.1 2 1 ≠ 501) → ∃ a c', g c1 = some (some a, c') ∧ CU sz at1 dp lc tr pc1 sc1 c1 a c') :
    ∀ (d i at1 pc1 sc1 pt1 m m' : Nat) (σ1 : gm_S) (c1 : ck_S) (pre : List kd_R) (z : kd_R) (a1 : Nat), sz ≤ at1 + d → d < m → d < m' → LI kd h0 q sz at_ dp lc tr pr pc sc pt σ c at1 pc1 sc1 pt1 σ1 c1 pre z a1 i → (i = 0 → sv sz at1 σ1 = sep) → JUo 1 (h0 + 1) sz at_ dp lc tr pr pc sc pt σ c (rL sep F m (Int32.ofNat q) z.1.1 σ1) (gL kd sep g m' (some a1) (some z.1.2) (Int32.ofNat i) c1) := by
  intro d
  induction d with
  | zero =>
    intro i at1 pc1 sc1 pt1 m m' σ1 c1 pre z a1 hsz hm hm' h hi0
    obtain ⟨m, rfl⟩ : ∃ k, m = k + 1 := ⟨m - 1, by omega⟩
    obtain ⟨m', rfl⟩ : ∃ k, m' = k + 1 := ⟨m' - 1, by omega⟩
    have l1 := h.1
    have hat1 : at1 ≤ sz := l1.1.2.2.2.1
    have hs : sz ≤ 500 := l1.1.2.1
    have hsv : sv sz at1 σ1 ≠ sep := by
      rcases sv_pk l1 with ⟨e, _⟩ | ⟨_, e, _⟩
      · omega
      · rw [e, hx]
        intro e'
        have := (eq_N (a := 0) (by decide) (by omega)).mp e'
        omega
    have hpk : pk sz at1 c1 ≠ sep := fun e => hsv (by rw [hx] at e ⊢; exact (sv_iff l1 hx1 hx2).mpr e)
    have hi : i ≠ 0 := fun e => hsv (hi0 e)
    have l16 := h.2.2.2.2.2.2.2.2.2.2.2.2.2.2.2.1
    have l17 := h.2.2.2.2.2.2.2.2.2.2.2.2.2.2.2.2.1
    obtain ⟨σ', c', e1, e2, e3⟩ := loop_end hkd htr hi h (by omega)
    rw [rL_end l1 hsv, gL_end l1.1 hpk, e1, e2]
    obtain ⟨_, _, _, _, _, _, _, z3, _⟩ := id e3
    exact ⟨1, σ', _, c', rfl, rfl, z3.1, Or.inl ⟨rfl, e3⟩⟩
  | succ d ih =>
    intro i at1 pc1 sc1 pt1 m m' σ1 c1 pre z a1 hsz hm hm' h hi0
    obtain ⟨m, rfl⟩ : ∃ k, m = k + 1 := ⟨m - 1, by omega⟩
    obtain ⟨m', rfl⟩ : ∃ k, m' = k + 1 := ⟨m' - 1, by omega⟩
    have hLI := h
    obtain ⟨l1, l2, l3, ⟨l4, l4'⟩, l5, l6, l7, l8, l9, l10, l11, l12, l13, l14, l15, l16, l17, l18⟩ := h
    have hat1 : at1 ≤ sz := l1.1.2.2.2.1
    have hs : sz ≤ 500 := l1.1.2.1
    by_cases hsv : sv sz at1 σ1 = sep
    · have hpk : pk sz at1 c1 = sep := by rw [hx] at hsv ⊢; exact (sv_iff l1 hx1 hx2).mp hsv
      have hlt : at1 < sz := by
        rcases sv_pk l1 with ⟨e, _⟩ | ⟨_, e, _⟩
        · exact e
        · rw [e, hx] at hsv
          have := (eq_N (a := 0) (by decide) (by omega)).mp hsv
          omega
      have hQ := QR_P l1 hlt
      obtain ⟨r, σ2, a, c2, j1, j2, j3, j4⟩ := hF _ _ _ _ _ _ hQ (by omega)
      obtain ⟨a', c2', k1, k2⟩ := hg _ _ _ _ hQ.1 (fun e => by omega)
      rw [j2] at k1
      obtain ⟨hab, hcc⟩ := Prod.mk.inj (Option.some.inj k1)
      have hab' := Option.some.inj hab
      rw [← hcc, ← hab'] at k2
      obtain ⟨at3, pc3, sc3, x1, x2, x3, x4, x5, ka, va, fa, wa, oa, x6⟩ := k2
      obtain ⟨u1, u2, u3, u4, ug, u5, u6, kl, vl, fl, u7⟩ := l12
      have hzin : z ∈ pre ++ [z] := by simp
      obtain ⟨b1, b2, b3, b4, b5, b6, b7, b8, b9, b10, b11, b12, b13⟩ := l8 z hzin
      have hE12 : ∀ w, w < c1.2.2.2.2.1 → c2.2.2.2.1 w = c1.2.2.2.1 w := fun w hw => x1.2.2.2.2.2.1.2.1 w hw
      have hz2 : c2.2.2.2.1 z.1.2 = some (nC kl vl fl (σ1.2 25 z.1.1.toNatClampNeg) (σ1.2 26 z.1.1.toNatClampNeg) none) := by rw [hE12 _ (by omega)]; exact u7
      rw [gL_step (al := z.1.2) l1.1 hpk (by omega) j2 hz2]
      have hRL : rL sep F (m + 1) (Int32.ofNat q) z.1.1 σ1 = (if r = 0 then some (0, σ2) else rL sep F m (Int32.ofNat q) (σ2.1 34) (σ2.1, (gm_up σ2.2 24 (upd (σ2.2 24) z.1.1.toNatClampNeg (σ2.1 34))))) := by
        conv => lhs; unfold rL
        rw [see_eq l1]
        simp only
        rw [if_pos hsv]
        have j1' : F ((upd σ1.1 27 ((σ1.1 27) + 1)), σ1.2) = some (r, σ2) := j1
        rw [j1']
        simp only
        have hgi : gi z.1.1 2600 = true := by rw [b1]; exact gi_of b2 (by decide)
        rw [if_pos hgi]
      rw [hRL]
      rcases j4 with ⟨hr, at2, pc2, sc2, pt2, pn, y1, y2, y3, y4, y5, y6, y7, y8⟩ | ⟨hr, hfb⟩
      · rw [hr, if_neg (by decide), y6]
        have hat2 := y2.2.1
        have hat2' : at2 ≤ sz := y1.1.2.2.2.1
        have hst := loop_step (σ2 := σ2) (c2 := c2) hlt hW hLI (by omega) y1 y2 y3 y4 y5 y7 y8 u7
        exact ih (i + 1) at2 pc2 sc2 pt2 m m' _ _ _ ((Int32.ofNat pn, a), (pt1, pt2), (c1.2.2.2.2.1, c2.2.2.2.2.1), (pc1, pc2)) a1 (by omega) (by omega) (by omega) hst (fun e => absurd e (by omega))
      · rw [hr, if_pos rfl]
        obtain ⟨m'', rfl⟩ : ∃ k, m' = k + 1 := ⟨m' - 1, by omega⟩
        have hne : c2.2.1 2 1 ≠ 501 := FB_ne hfb
        have hCW3 : CW sz at3 dp lc tr pc3 sc3 (cE c2 z.1.2 (nC kl vl fl (σ1.2 25 z.1.1.toNatClampNeg) (σ1.2 26 z.1.1.toNatClampNeg) (some a))) := x1.1
        have hpk3 : pk sz at3 (cE c2 z.1.2 (nC kl vl fl (σ1.2 25 z.1.1.toNatClampNeg) (σ1.2 26 z.1.1.toNatClampNeg) (some a))) ≠ sep := by
          have hpb : pk sz at3 (cE c2 z.1.2 (nC kl vl fl (σ1.2 25 z.1.1.toNatClampNeg) (σ1.2 26 z.1.1.toNatClampNeg) (some a))) = -1 := pk_b (c := cE c2 z.1.2 (nC kl vl fl (σ1.2 25 z.1.1.toNatClampNeg) (σ1.2 26 z.1.1.toNatClampNeg) (some a))) hne
          rw [hpb, hx]
          intro e
          have h1 : (Int32.ofNat x).toInt = x := Int32.toInt_ofNat_of_lt (by omega)
          rw [← e, show (-1 : Int32).toInt = -1 from rfl] at h1
          omega
        rw [gL_end hCW3 hpk3]
        have x4' : c1.2.2.2.2.1 ≤ a := x4
        have hlch0 : lch c1.2.2.2.1 (lT σ1.2 (pre ++ [z])) (some a1) := chn_lch _ _ _ (fun y hy => (l8 y hy).2.2.2.2.2.2.2.2.2.2.2.1) l7
        have hlin : ∀ w ∈ lT σ1.2 (pre ++ [z]), w.1 < c1.2.2.2.2.1 := fun w hw => by
          obtain ⟨y, hy, rfl⟩ := List.mem_map.mp hw
          obtain ⟨_, _, _, _, _, _, _, _, d9, _, d11, _⟩ := l8 y hy
          simp only
          omega
        have hlch2 : lch c2.2.2.2.1 (lT σ1.2 (pre ++ [z])) (some a1) := lch_ag _ _ (fun w hw => hE12 _ (hlin w hw)) hlch0
        have hlT : lT σ1.2 (pre ++ [z]) = lT σ1.2 pre ++ [(z.1.2, σ1.2 25 z.1.1.toNatClampNeg, σ1.2 26 z.1.1.toNatClampNeg)] := by unfold lT; simp
        rw [hlT] at hlch2
        have hlch3 := lch_snoc hz2 x6 (by omega) (lT σ1.2 pre) (some a1) (fun w hw => by
          obtain ⟨y, hy, rfl⟩ := List.mem_map.mp hw
          obtain ⟨_, _, _, _, _, _, _, _, _, _, d11, _⟩ := l8 y (by simp [hy])
          have := l9 y hy
          simp only
          omega) hlch2
        obtain ⟨a5, c5, t1, t2⟩ := gEnd_t (kd := kd) (c1 := cE c2 z.1.2 (nC kl vl fl (σ1.2 25 z.1.1.toNatClampNeg) (σ1.2 26 z.1.1.toNatClampNeg) (some a))) (a1 := a1) (al := a) hlch3 (by
          unfold lT
          simp
          omega) (fun w hw => by
          show w.1 < c2.2.2.2.2.1
          have hle2 : c1.2.2.2.2.1 ≤ c2.2.2.2.2.1 := x1.2.2.2.2.2.1.1
          rw [← hlT] at hw
          rcases List.mem_append.mp hw with e | e
          · have := hlin w e
            omega
          · rw [List.mem_singleton.mp e]
            exact x5)
        rw [t1]
        refine ⟨0, σ2, a5, c5, rfl, rfl, rW_tr l3.1 (rW_tr (rU_P (σ := σ1) (pr := pr) (pc := pc1) (pt := pt1) (tr := tr)).1 j3), Or.inr ⟨rfl, ?_⟩⟩
        have hfb' : FB σ2 c5 := by unfold FB; rw [t2]; exact hfb
        exact hfb'
    · have hpk : pk sz at1 c1 ≠ sep := fun e => hsv (by rw [hx] at e ⊢; exact (sv_iff l1 hx1 hx2).mpr e)
      have hi : i ≠ 0 := fun e => hsv (hi0 e)
      obtain ⟨σ', c', e1, e2, e3⟩ := loop_end hkd htr hi hLI (by omega)
      rw [rL_end l1 hsv, gL_end l1.1 hpk, e1, e2]
      obtain ⟨_, _, _, _, _, _, _, z3, _⟩ := id e3
      exact ⟨1, σ', _, c', rfl, rfl, z3.1, Or.inl ⟨rfl, e3⟩⟩
end Q5
