section J11
variable {sz at_ dp lc tr pr pc sc pt n : Nat} {σ : gm_S} {c : ck_S} {f : gm_S → Option (Int32 × gm_S)} {g : ck_S → Option (Option Nat × ck_S)}
theorem noF_b {c' : ck_S} (hk : CF tr pc c c') (hno : noF c') : noF c := by
  have hk := hk.2.2.2.2.2.2.2
  unfold noF at hno ⊢
  exact ⟨Classical.byContradiction fun e => hk 2 (by decide) (by decide) e hno.1, Classical.byContradiction fun e => hk 3 (by decide) (by decide) e hno.2.1, Classical.byContradiction fun e => hk 4 (by decide) (by decide) e hno.2.2⟩
theorem w1I_1 {kd x : Int32} : w1I kd x 1 σ = (match sp_Md_with kd x (σ.1 34) (-1) σ with
  | none => none
  | some y5 => some (1, ((upd y5.2.1 34 y5.1), y5.2.2))) := if_neg (by decide)
theorem KG_N {kk hh t1 a start : Nat} {Γ1 : Nat → Bool} {p : Int32} {σ1 : gm_S} {c1 : ck_S} (hs : start ≤ 500) (h : KG kk hh t1 Γ1 sz at_ dp lc tr pr pc sc pt σ c p σ1 a c1) : KG kk hh t1 Γ1 sz at_ dp lc tr pr pc sc pt σ c p (mN 3 start σ1) a (cN 3 start c1) ∧ ¬ noF (cN 3 start c1) := by
  obtain ⟨at', pc', sc', pt', pn, y1, y2, y3, y4, y5, y6, y7, y8⟩ := h
  have hnf : ¬ noF (cN 3 start c1) := fun hno => (CW_N (k := 3) (w := start) (by decide) (by decide) hs y1.1).2.2 hno.2.1
  obtain ⟨o1, o2, o3⟩ := mN_o (σ := σ1) (k := 3) (w := start)
  refine ⟨⟨at', pc', sc', pt', pn, QR_N (by decide) (by decide) hs (fun e => absurd e (by decide)) y1, CV_tr y2 (CV_N (by decide) (by decide) hs y1.1), rU_tr y3 rU_N (Nat.le_refl _) (Nat.le_refl _), y4, y5, y6, ?_, fun hno => absurd hno hnf⟩, hnf⟩
  unfold UL at y7 ⊢
  rw [o2 20 (by decide), o2 24 (by decide), o2 25 (by decide), o2 26 (by decide)]
  exact y7
theorem CU_N {a k w : Nat} {c1 : ck_S} (hk : 2 ≤ k) (hk4 : k ≤ 4) (hw : w ≤ 500) (h : CU sz at_ dp lc tr pc sc c a c1) : CU sz at_ dp lc tr pc sc c a (cN k w c1) := by
  obtain ⟨at2, pc2, sc2, x1, x2, x3, x4, x5, x6⟩ := h
  exact ⟨at2, pc2, sc2, CV_tr x1 (CV_N hk hk4 hw x1.1), x2, x3, x4, x5, x6⟩
theorem loop_j {start : Nat} (hst : start ≤ 500) (h : QR sz at_ dp lc tr pr pc sc pt σ c) (hd : dp ≤ 12) (htr : tr ≤ dp) (hlc : lc ≤ dp) (hf : JF n f g) (hg : BF (n + 1) g) (hn : 12 - dp ≤ n) (hpt : pt ≤ 5 * at_ + 4) : JO 4 (7 * (12 - dp) + 5) sz at_ dp lc tr pr pc sc pt σ c (sp_Md_readLoop f (Int32.ofNat start) σ) (sp_Rd_readLoop g (Int32.ofNat start) c) := by
  have hs : sz ≤ 500 := h.1.2.1
  unfold sp_Md_readLoop sp_Rd_readLoop
  obtain ⟨r, σ2, a, c2, j1, j2, j3, j4⟩ := body_j h hd (by omega) (by omega) hf hg hn (by omega)
  obtain ⟨b1, c2', r1, r2⟩ := body_cu h.1 hd hg (by omega) (by omega) (by omega)
  rw [j2] at r1
  obtain ⟨hab, hcc⟩ := Prod.mk.inj (Option.some.inj r1)
  have hab' := Option.some.inj hab
  rw [← hcc, ← hab'] at r2
  rw [j1, j2]
  simp only
  have e3 : ∀ z, sp_Rd_note 3 (Int32.ofNat start) z = some (cN 3 start z) := fun z => nt_eq (k := 3) (by decide)
  have m3 : ∀ z, sp_Md_note 3 (Int32.ofNat start) z = some (mN 3 start z) := fun z => mn_eq (k := 3) (by decide)
  have fin : ∀ (σ1 : gm_S) (c1 : ck_S), CU sz at_ dp lc tr pc sc c a c1 → rW σ σ1 → ((r = 1 ∧ KG 11 (7 * (12 - dp)) tr (Gc c) sz at_ dp lc tr pr pc sc pt σ c (σ1.1 34) σ1 a c1) ∨ (r = 0 ∧ FB σ1 c1)) → (r = 1 → noF c1 → bt (σ1.2 26 (σ1.1 34).toNatClampNeg) 0 = false) → ∃ σ' c', w1I 4 (-1) r σ1 = some (r, σ') ∧ sp_Node_init c1.2.2.2.2.1 4 0 (some a) (cM c1 nD) = some c' ∧ rW σ σ' ∧ ((r = 1 ∧ UG 10 (7 * (12 - dp) + 1) sz at_ dp lc tr pr pc sc pt σ c (σ'.1 34) σ' c1.2.2.2.2.1 c') ∨ (r = 0 ∧ FB σ' c')) := by
    intro σ1 c1 hcu hrw ho hk4
    exact end_post (kd := 4) (x := -1) (vl := 0) (kk := 11) h.1 (by decide) (by omega) (by omega) (by omega) hcu hrw ho (by rw [if_neg (by decide)]) (by rw [if_neg (by decide)]) (fun a b _ => hk4 a b) (fun _ _ e => absurd e (by decide)) (fun _ _ e => absurd e (by decide))
  have toJ : ∀ (R : Option (Int32 × gm_S)) (C : Option (Option Nat × ck_S)) (r : Int32) (σ' : gm_S) (c' : ck_S) (b : Nat), R = some (r, σ') → C = some (some b, c') → rW σ σ' → ((r = 1 ∧ UG 10 (7 * (12 - dp) + 1) sz at_ dp lc tr pr pc sc pt σ c (σ'.1 34) σ' b c') ∨ (r = 0 ∧ FB σ' c')) → JO 4 (7 * (12 - dp) + 5) sz at_ dp lc tr pr pc sc pt σ c R C := by
    intro R C r σ' c' b h1 h2 h3 h4
    refine ⟨r, σ', b, c', h1, h2, h3, ?_⟩
    rcases h4 with ⟨p5, p6⟩ | p5
    · exact Or.inl ⟨p5, UG_V (CV_rf h.1) rU_rf rfl rfl (by omega) p6⟩
    · exact Or.inr p5
  rcases j4 with ⟨hr, hk⟩ | ⟨hr, hfb⟩
  · subst hr
    rw [if_neg (by decide)]
    have hk' : KG 11 (7 * (12 - dp)) tr (Gc c) sz at_ dp lc tr pr pc sc pt σ c (σ2.1 34) σ2 a c2 := hk
    obtain ⟨at', pc', sc', pt', pn, y1, y2, y3, y4, y5, y6, y7, y8⟩ := hk
    obtain ⟨u1, u2, u3, u4, ug, u5, u6, k1, v1, f1, u7⟩ := y7
    have hat' : at' ≤ sz := y1.1.2.2.2.1
    have hat := y2.2.1
    rw [y6, if_pos (gi_of (by omega : pn < 2600) (by decide)), cl_of (by omega), nC_4 u7]
    simp only
    by_cases ho : σ2.2 26 pn &&& 1 = 0
    · rw [if_pos ho, if_neg (fun e => and1_c.mp e ho)]
      obtain ⟨σ3, c3, p1, p2, p3, p4⟩ := fin σ2 c2 r2 j3 (Or.inl ⟨rfl, hk'⟩) (fun _ _ => by rw [y6, cl_of (by omega)]; exact b0_of ho)
      rw [w1I_1, y6] at p1
      refine toJ _ _ 1 σ3 c3 _ p1 ?_ p3 p4
      have p2' : sp_Node_init c2.2.2.2.2.1 4 0 (some a) (c2.1, c2.2.1, c2.2.2.1, eset c2.2.2.2.1 c2.2.2.2.2.1 (Sum.inr (2, gx_def gx_kd2)), c2.2.2.2.2.1 + 1, c2.2.2.2.2.2 + 6) = some c3 := p2
      rw [p2']
    · rw [if_neg ho, if_pos (and1_c.mpr ho), e3, m3]
      simp only
      obtain ⟨hkn, hnf⟩ := KG_N hst hk'
      have hrw' : rW σ (mN 3 start σ2) := rW_tr j3 (rU_N (pr := pr) (pc := pc) (pt := pt) (tr := tr)).1
      have h34 : (mN 3 start σ2).1 34 = σ2.1 34 := by rw [mN_o.1]
      obtain ⟨σ3, c3, p1, p2, p3, p4⟩ := fin (mN 3 start σ2) (cN 3 start c2) (CU_N (by decide) (by decide) hst r2) hrw' (Or.inl ⟨rfl, by rw [h34]; exact hkn⟩) (fun _ hno => absurd hno hnf)
      rw [w1I_1] at p1
      refine toJ _ _ 1 σ3 c3 _ p1 ?_ p3 p4
      have p2' : sp_Node_init (cN 3 start c2).2.2.2.2.1 4 0 (some a) ((cN 3 start c2).1, (cN 3 start c2).2.1, (cN 3 start c2).2.2.1, eset (cN 3 start c2).2.2.2.1 (cN 3 start c2).2.2.2.2.1 (Sum.inr (2, gx_def gx_kd2)), (cN 3 start c2).2.2.2.2.1 + 1, (cN 3 start c2).2.2.2.2.2 + 6) = some c3 := p2
      rw [p2']
  · subst hr
    rw [if_pos rfl]
    have hfb' : FB σ2 c2 := hfb
    have r2' := r2
    obtain ⟨at2, pc2, sc2, x1, x2, x3, x4, x5, k, v, f', w, o, e⟩ := r2'
    rw [nC_4 e]
    simp only
    by_cases ho : o &&& 1 = 0
    · rw [if_pos ho]
      obtain ⟨σ3, c3, p1, p2, p3, p4⟩ := fin σ2 c2 r2 j3 (Or.inr ⟨rfl, hfb'⟩) (fun e => absurd e (by decide))
      have p2' : sp_Node_init c2.2.2.2.2.1 4 0 (some a) (c2.1, c2.2.1, c2.2.2.1, eset c2.2.2.2.1 c2.2.2.2.2.1 (Sum.inr (2, gx_def gx_kd2)), c2.2.2.2.2.1 + 1, c2.2.2.2.2.2 + 6) = some c3 := p2
      rw [p2']
      have p1' : some ((0 : Int32), σ2) = some (0, σ3) := p1
      exact toJ _ _ 0 σ3 c3 _ p1' rfl p3 p4
    · rw [if_neg ho, e3]
      simp only
      obtain ⟨σ3, c3, p1, p2, p3, p4⟩ := fin σ2 (cN 3 start c2) (CU_N (by decide) (by decide) hst r2) j3 (Or.inr ⟨rfl, FB_k hfb' (fun _ => (CW_N (k := 3) (w := start) (by decide) (by decide) hst x1.1).2.1)⟩) (fun e => absurd e (by decide))
      have p2' : sp_Node_init (cN 3 start c2).2.2.2.2.1 4 0 (some a) ((cN 3 start c2).1, (cN 3 start c2).2.1, (cN 3 start c2).2.2.1, eset (cN 3 start c2).2.2.2.1 (cN 3 start c2).2.2.2.2.1 (Sum.inr (2, gx_def gx_kd2)), (cN 3 start c2).2.2.2.2.1 + 1, (cN 3 start c2).2.2.2.2.2 + 6) = some c3 := p2
      rw [p2']
      have p1' : some ((0 : Int32), σ2) = some (0, σ3) := p1
      exact toJ _ _ 0 σ3 c3 _ p1' rfl p3 p4
end J11
