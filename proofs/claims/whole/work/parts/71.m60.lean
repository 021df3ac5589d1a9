section J13
variable {sz at_ dp lc tr pr pc sc pt n : Nat} {σ : gm_S} {c : ck_S} {f : gm_S → Option (Int32 × gm_S)} {g : ck_S → Option (Option Nat × ck_S)}
theorem two_t {c1 c2 : ck_S} {b1 b2 at1 pc1 sc1 : Nat} {kd v : Int32} (q : CU sz at_ dp lc tr pc sc c b1 c1) (r : CU sz at1 dp lc tr pc1 sc1 c1 b2 c2) : ∃ c3 c', sp_Rd_chain (some b1) (some b2) (cM c2 nD) = some (some b1, c3) ∧ sp_Node_init c2.2.2.2.2.1 kd v (some b1) c3 = some c' ∧ c'.2.1 = c2.2.1 := by
  obtain ⟨at2, pc2, sc2, q3, q4, q5, q6, q7, k1, v1, f1, w1, o1, q8⟩ := q
  obtain ⟨at3, pc3, sc3, r3, r4, r5, r6, r7, k2, v2, f2, w2, o2, r8⟩ := r
  have hle := r3.2.2.2.2.2.1.1
  have e1 : (cM c2 nD).2.2.2.1 b1 = some (nC k1 v1 f1 w1 o1 none) := by
    show eset _ _ _ b1 = _
    rw [eset_ne (by omega), r3.2.2.2.2.2.1.2.1 b1 q7, q8]
  have hch := chain_eq (a2 := some b2) e1
  have g0 : (cE (cM c2 nD) b1 (nC k1 v1 f1 w1 o1 (some b2))).2.2.2.1 c2.2.2.2.2.1 = some nD := by
    show eset (eset _ _ _) _ _ _ = _
    rw [eset_ne (by omega), eset_eq]
  have g1 : (cE (cM c2 nD) b1 (nC k1 v1 f1 w1 o1 (some b2))).2.2.2.1 b1 = some (nC k1 v1 f1 w1 o1 (some b2)) := eset_eq
  have g2 : (cE (cM c2 nD) b1 (nC k1 v1 f1 w1 o1 (some b2))).2.2.2.1 b2 = some (nC k2 v2 f2 w2 o2 none) := by
    show eset (eset _ _ _) _ _ _ = _
    rw [eset_ne (by omega), eset_ne (by omega), r8]
  exact ⟨_, _, hch, init2 (kd := kd) (v := v) g0 g1 g2 (by omega) (by omega), rfl⟩
theorem CV_fb {c1 : ck_S} {σ' : gm_S} {at' pc' sc' : Nat} (h : FB σ' c) (hv : CV sz at_ dp lc tr pc sc c c1 at' pc' sc') : FB σ' c1 := FB_k h hv.2.2.2.2.1.2.2.2.2.2.2.1
theorem body_2 (h : CW sz at_ dp lc tr pc sc c) (hd : dp ≤ 12) (hg : BF (n + 1) g) (hn : 12 - dp ≤ n) (htr : tr ≤ dp + 1) (hlc : lc ≤ dp + 1) {a : Nat} {c' : ck_S} (e : sp_Rd_readBody g c = some (some a, c')) : CU sz at_ dp lc tr pc sc c a c' := by
  obtain ⟨b1, c2', r1, r2⟩ := body_cu h hd hg (by omega) htr hlc
  rw [e] at r1
  obtain ⟨hab, hcc⟩ := Prod.mk.inj (Option.some.inj r1)
  have hab' := Option.some.inj hab
  rw [← hcc, ← hab'] at r2
  exact r2
theorem named_fb {c1 : ck_S} {s : Int32} {σ1 : gm_S} (h : QR sz at_ dp lc tr pr pc sc pt σ c) (e1 : sp_Rd_readToldSignal c = some (s, c1)) (e3 : c1.2.1 2 1 = Int32.ofNat at_) (e4 : σ1.1 27 = Int32.ofNat at_) : FB σ1 c1 ∧ ∃ at1, CV sz at_ dp lc tr pc sc c c1 at1 pc sc ∧ c1.2.2 = c.2.2 := by
  have hs : sz ≤ 500 := h.1.2.1
  have ha : at_ ≤ sz := h.1.2.2.2.1
  obtain ⟨s', c1', at1, q1, q2, q3, q4, q5⟩ := told_eq h.1
  rw [e1] at q1
  obtain ⟨_, hcc⟩ := Prod.mk.inj (Option.some.inj q1)
  rw [← hcc] at q2 q4 q5
  refine ⟨⟨by rw [e3, e4], at_, by omega, e4⟩, at1, q2, ?_⟩
  have h1 := q2.2.2.2.2.1.2.1
  obtain ⟨n1, l1, r1, E1, x1, y1⟩ := c1
  obtain ⟨n0, l0, r0, E0, x0, y0⟩ := c
  simp only at h1 q4 q5 ⊢
  rw [h1, q4, q5]
theorem sig_k {l : Nat} {c1 c2 : ck_S} {x : Int32} (hf : CF tr pc c1 c2) (l1 : l < 26) (e4 : c1.2.1 3 = c.2.1 3) (e12 : c1.1 12 = c.1 12) (e3 : x = Int32.ofNat l) (e9 : noF c1 → ¬ (c.2.1 3 l &&& c.1 12 = 0)) (hno : noF c2) : ∃ j, j < 26 ∧ x = Int32.ofNat j ∧ c.2.1 3 l = c2.2.1 3 j ∧ c2.2.1 3 j ≠ 0 ∧ Gc c1 j = true := by
  have hz := e9 (noF_b hf hno)
  have hne : c.2.1 3 l ≠ 0 := fun e => hz (by rw [e]; exact and_0)
  have hst : c2.2.1 3 l = c.2.1 3 l := by
    rw [hf.2.2.2.2.1 l l1 (by rw [e4]; exact hne), e4]
  refine ⟨l, l1, e3, hst.symm, by rw [hst]; exact hne, ?_⟩
  rw [Gc_of e4 e12]
  unfold Gc
  simp [hz]
theorem ask_j (h : QR sz at_ dp lc tr pr pc sc pt σ c) (hd : dp ≤ 12) (htr : tr ≤ dp) (hlc : lc ≤ dp) (hf : JF n f g) (hg : BF (n + 1) g) (hn : 12 - dp ≤ n) (hpt : pt ≤ 5 * at_ + 4) : JO 4 (7 * (12 - dp) + 5) sz at_ dp lc tr pr pc sc pt σ c (sp_Md_readIf f σ) (sp_Rd_readAsk g c) := by
  have hs : sz ≤ 500 := h.1.2.1
  have ha : at_ ≤ sz := h.1.2.2.2.1
  unfold sp_Md_readIf sp_Rd_readAsk
  have blind : ∀ (σ' : gm_S) (c1 c2 c3 : ck_S) (b1 b2 : Nat) (s : Int32) (at0 at1 p0 s0 p1 s1 : Nat), rW σ σ' → CU sz at0 dp lc tr p0 s0 c1 b1 c2 → CU sz at1 dp lc tr p1 s1 c2 b2 c3 → FB σ' c3 → JO 4 (7 * (12 - dp) + 5) sz at_ dp lc tr pr pc sc pt σ c (some (0, σ')) (match sp_Rd_chain (some b1) (some b2) (cM c3 nD) with
      | none => none
      | some y4 => (match sp_Node_init c3.2.2.2.2.1 3 s y4.1 y4.2 with
        | none => none
        | some y5 => some ((some c3.2.2.2.2.1), y5))) := by
    intro σ' c1 c2 c3 b1 b2 s at0 at1 p0 s0 p1 s1 hrw q1 q2 hfb
    obtain ⟨c4, c5, t1, t2, t3⟩ := two_t (kd := 3) (v := s) q1 q2
    rw [t1]
    simp only
    rw [t2]
    refine ⟨0, σ', _, c5, rfl, rfl, hrw, Or.inr ⟨rfl, ?_⟩⟩
    have hfb' : FB σ' c5 := by unfold FB at hfb ⊢; rw [t3]; exact hfb
    exact hfb'
  rcases named_j false h with ⟨s, c1, σ1, e1, e2, e3, e4, e5⟩ | ⟨l, c1, σ1, l1, l2, e1, e2, e3, e4, e5, e6, e7, e8, e9⟩
  · have e1' : sp_Rd_readToldSignal c = some (s, c1) := e1
    have e2' : sp_Md_isNamed 0 σ = some (0, σ1) := e2
    rw [e1', e2']
    simp only
    rw [if_pos trivial]
    obtain ⟨hfb, at1, q2, _⟩ := named_fb h e1' e3 e4
    obtain ⟨b1, c2, r1, r2⟩ := body_cu q2.1 hd hg (by omega) (by omega) (by omega)
    obtain ⟨at2, pc2, sc2, x1, _⟩ := id r2
    obtain ⟨b2, c3, r3, r4⟩ := body_cu x1.1 hd hg (by omega) (by omega) (by omega)
    obtain ⟨at3, pc3, sc3, x2, _⟩ := id r4
    rw [r1]
    simp only
    rw [r3]
    simp only
    exact blind σ1 c1 c2 c3 b1 b2 s _ _ _ _ _ _ e5 r2 r4 (CV_fb (CV_fb hfb x1) x2)
  · have e1' : sp_Rd_readToldSignal c = some (c.2.1 3 l, c1) := e1
    have e2' : sp_Md_isNamed 0 σ = some (1, σ1) := e2
    rw [e1', e2']
    simp only
    rw [if_neg (by decide)]
    obtain ⟨r, σ2, a, c2, j1, j2, j3, j4⟩ := body_j e5 hd (by omega) (by omega) hf hg hn (by omega)
    have r2 := body_2 e5.1 hd hg hn (by omega) (by omega) j2
    rw [j1, j2]
    simp only
    rcases j4 with ⟨hr, hk⟩ | ⟨hr, hfb⟩
    · subst hr
      rw [if_neg (by decide)]
      obtain ⟨at2, pc2, sc2, pt2, pn1, y1, y2, y3, y4, y5, y6, y7, y8⟩ := hk
      have hat2 := y2.2.1
      have hat2' : at2 ≤ sz := y1.1.2.2.2.1
      obtain ⟨r', σ3, b, c3, p1, p2, p3, p4⟩ := body_j y1 hd (by omega) (by omega) hf hg hn (by omega)
      have r4 := body_2 y1.1 hd hg hn (by omega) (by omega) p2
      rw [p1, p2]
      simp only
      rcases p4 with ⟨hr, hk⟩ | ⟨hr, hfb⟩
      · subst hr
        rw [if_neg (by decide)]
        obtain ⟨at3, pc3, sc3, pt3, pn2, z1, z2, z3, z4, z5, z6, z7, z8⟩ := hk
        have hat3 := z2.2.1
        have hat3' : at3 ≤ sz := z1.1.2.2.2.1
        have hle1 := y2.2.2.2.2.2.1.1
        have hle2 := z2.2.2.2.2.2.1.1
        have hG12 : ∀ l, l < 26 → Gc c2 l = Gc c1 l := Gc_eq y2 e5.1 (y2.2.2.2.2.1.1 12 (by decide) (by decide) (by decide))
        have hcvM : CV sz (at_ + 1) dp lc tr pc sc c1 (cM c3 nD) at3 pc3 sc3 := CV_tr (CV_tr y2 z2) (CV_M z1.1)
        have hU : ∀ j q, 20 ≤ j → j ≤ 26 → q < pt2 → σ3.2 j q = σ2.2 j q := fun j q a b d => z3.2.2.2.2.1 j q a b d
        have hE : ∀ q, q < c2.2.2.2.2.1 → (cM c3 nD).2.2.2.1 q = c2.2.2.2.1 q := fun q hq => by
          show eset _ _ _ q = _
          rw [eset_ne (by omega), z2.2.2.2.2.2.1.2.1 q hq]
        have hE3 : ∀ q, q < c3.2.2.2.2.1 → (cM c3 nD).2.2.2.1 q = c3.2.2.2.1 q := fun q hq => eset_ne (by omega)
        obtain ⟨c1', c4, t1, t2, t3, t4, t5, t6, t7, t8, t9⟩ := wrapJ2 (kd := 3) (x := σ1.1 35) (vl := c.2.1 3 l) (hh := 7 * (12 - dp)) (c := c1) (σ := σ1) (pc := pc) (sc := sc) (at_ := at_ + 1) (c1 := cM c3 nD) (σ1 := σ3) (a := c3.2.2.2.2.1) (w := pc2) (pt := pt) (mid := pt2) (by decide) (QR_h z1 rfl rfl) (rU_tr y3 z3 y2.2.2.1 (by omega)) (by omega) (mv_UL hU hE y7) (UL_x (mv_UL (fun _ _ _ _ _ => rfl) hE3 z7)) (fun hno => mv_nR hU hE (fun j jl jn => z2.2.2.2.2.1.2.2.2.2.1 j jl jn) (Nat.le_refl _) (Nat.le_refl _) (y8 (noF_b z2.2.2.2.2.1 hno))) (fun hno => mv_nR (fun _ _ _ _ _ => rfl) hE3 (fun _ _ _ => rfl) (Nat.le_refl _) (Nat.le_refl _) (nR_G _ _ _ _ _ hG12 (z8 hno))) (by omega) eset_eq hcvM (by omega) (Nat.lt_succ_self _) (Nat.le_refl _) (by show _ ≤ c3.2.2.2.2.1 + 1; omega) (Or.inr (by omega)) (by omega) (by show _ ≤ c3.2.2.2.2.1 + 1; omega) (Or.inr (by omega)) (Or.inl (Nat.le_refl _)) (fun hno _ => sig_k hcvM.2.2.2.2.1 l1 e4 (e8.2.2.2.2.1.1 12 (by decide) (by decide) (by decide)) e3 e9 hno)
        have t1' : sp_Rd_chain (some a) (some b) (c3.1, c3.2.1, c3.2.2.1, eset c3.2.2.2.1 c3.2.2.2.2.1 (Sum.inr (2, gx_def gx_kd2)), c3.2.2.2.2.1 + 1, c3.2.2.2.2.2 + 6) = some (some a, c1') := t1
        rw [t1']
        simp only
        rw [t2]
        simp only
        rw [y6, z6, t8]
        simp only
        obtain ⟨s1, s2, s3, s4⟩ := t9 (upd (upd σ3.1 19 (Int32.ofNat (pt3 + 1))) 34 (Int32.ofNat pt3), w2A σ3.2 pt3 3 (σ1.1 35) pn1 pn2) rfl (fun j j1 _ => upd_ne j1)
        refine ⟨1, _, _, c4, rfl, rfl, rW_tr e6.1 s2.1, Or.inl ⟨rfl, UG_V (kk := 1) e8 e6 e7 (Gc_of e4 (e8.2.2.2.2.1.1 12 (by decide) (by decide) (by decide))) (show 7 * (12 - dp) + 1 ≤ _ by omega) ⟨at3, pc3, sc3, pt3 + 1, pt3, s1, t6, s2, by omega, by omega, rfl, s3, s4⟩⟩⟩
      · subst hr
        rw [if_pos rfl]
        exact blind σ3 c1 c2 c3 a b _ _ _ _ _ _ _ (rW_tr e6.1 (rW_tr j3 p3)) r2 r4 hfb
    · subst hr
      rw [if_pos rfl]
      obtain ⟨at2, pc2, sc2, x1, _⟩ := id r2
      obtain ⟨b2, c3, r3, r4⟩ := body_cu x1.1 hd hg (by omega) (by omega) (by omega)
      obtain ⟨at3, pc3, sc3, x2, _⟩ := id r4
      rw [r3]
      simp only
      exact blind σ2 c1 c2 c3 a b2 _ _ _ _ _ _ _ (rW_tr e6.1 j3) r2 r4 (CV_fb hfb x2)
end J13
