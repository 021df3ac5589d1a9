section J10
variable {sz at_ dp lc tr pr pc sc pt n : Nat} {σ : gm_S} {c : ck_S} {f : gm_S → Option (Int32 × gm_S)} {g : ck_S → Option (Option Nat × ck_S)}
theorem Gc_of {c1 : ck_S} (h3 : c1.2.1 3 = c.2.1 3) (h12 : c1.1 12 = c.1 12) : Gc c1 = Gc c := by
  unfold Gc
  rw [h3, h12]
theorem UG_V {σ1 σ' : gm_S} {c1 c' : ck_S} {at1 kk k hh h2 a : Nat} {p : Int32} (hcv : CV sz at_ dp lc tr pc sc c c1 at1 pc sc) (hrU : rU pr pc pt tr σ σ1) (hE : c1.2.2 = c.2.2) (hG : Gc c1 = Gc c) (hle : hh ≤ h2) (h : UG kk hh sz at1 dp lc tr pr pc sc pt σ1 c1 p σ' a c') : VG k h2 sz at_ dp lc tr pr pc sc pt σ c p σ' a c' := by
  obtain ⟨at', pc', sc', pt', pn, y1, y2, y3, y4, y5, y6, y7, y8⟩ := h
  have hnx : c1.2.2.2.2.1 = c.2.2.2.2.1 := by rw [hE]
  have h1 := hcv.2.1
  have h2' := y2.2.1
  rw [hnx] at y7 y8
  rw [hG] at y8
  exact ⟨at', pc', sc', pt', pn, y1, CV_tr hcv y2, rU_tr hrU y3 (Nat.le_refl _) (Nat.le_refl _), by omega, y5, y6, y7, fun hno => nR_mono _ _ _ _ _ hle (y8 hno)⟩
theorem b0_of {x : Int32} (h : x &&& 1 = 0) : bt x 0 = false := and1_bt.mp h
theorem FB_k {σ' : gm_S} {c1 c' : ck_S} (h : FB σ' c1) (hk : c1.2.1 2 1 ≠ 501 → c'.2.1 2 1 = c1.2.1 2 1) : FB σ' c' := by
  have := hk (FB_ne h)
  unfold FB at h ⊢
  rw [this]
  exact h
theorem susp_j (h : QR sz at_ dp lc tr pr pc sc pt σ c) (hd : dp ≤ 12) (htr : tr ≤ dp) (hlc : lc ≤ dp) (hf : JF n f g) (hg : BF (n + 1) g) (hn : 12 - dp ≤ n) (hpt : pt ≤ 5 * at_ + 4) : JO 4 (7 * (12 - dp) + 5) sz at_ dp lc tr pr pc sc pt σ c (sp_Md_readSuspend f σ) (sp_Rd_readSuspend g c) := by
  have hs : sz ≤ 500 := h.1.2.1
  have ha : at_ ≤ sz := h.1.2.2.2.1
  unfold sp_Md_readSuspend sp_Rd_readSuspend
  rcases named_j false h with ⟨s, c1, σ1, e1, e2, e3, e4, e5⟩ | ⟨l, c1, σ1, l1, l2, e1, e2, e3, e4, e5, e6, e7, e8, e9⟩
  · have e1' : sp_Rd_readToldSignal c = some (s, c1) := e1
    have e2' : sp_Md_isNamed 0 σ = some (0, σ1) := e2
    rw [e1', e2']
    simp only
    rw [if_pos trivial]
    obtain ⟨s', c1', at1, q1, q2, q3, q4, q5⟩ := told_eq h.1
    rw [e1'] at q1
    obtain ⟨_, hcc⟩ := Prod.mk.inj (Option.some.inj q1)
    rw [← hcc] at q2 q4 q5
    have hm := CV_M (z := nD) q2.1
    obtain ⟨b1, c2, r1, r2⟩ := body_cu hm.1 hd hg (by omega) (by omega) (by omega)
    obtain ⟨at2, pc2, sc2, x1, x2, x3, x4, x5, x6⟩ := r2
    have e0 : (cM c1 nD).2.2.2.2.1 = c1.2.2.2.2.1 + 1 := rfl
    rw [e0] at x4
    have hcell : c2.2.2.2.1 c1.2.2.2.2.1 = some nD := by
      rw [x1.2.2.2.2.2.1.2.1 _ (by rw [e0]; omega)]
      exact eset_eq
    obtain ⟨c', i1, i2⟩ := initN (kd := 5) (v := s) hcell x6 (by omega)
    have r1' : sp_Rd_readBody g (c1.1, c1.2.1, c1.2.2.1, eset c1.2.2.2.1 c1.2.2.2.2.1 (Sum.inr (2, gx_def gx_kd2)), c1.2.2.2.2.1 + 1, c1.2.2.2.2.2 + 6) = some (some b1, c2) := r1
    rw [r1']
    simp only
    rw [i1]
    refine ⟨0, σ1, _, c', rfl, rfl, e5, Or.inr ⟨rfl, ?_, at_, by omega, e4⟩⟩
    rw [i2, x1.2.2.2.2.1.2.2.2.2.2.2.1 (by show c1.2.1 2 1 ≠ 501; rw [e3]; intro e; have := (eq_N (b := 501) (by omega) (by decide)).mp e; omega)]
    show c1.2.1 2 1 = _
    rw [e3, e4]
  · have e1' : sp_Rd_readToldSignal c = some (c.2.1 3 l, c1) := e1
    have e2' : sp_Md_isNamed 0 σ = some (1, σ1) := e2
    rw [e1', e2']
    simp only
    rw [if_neg (by decide)]
    have hQ : QR sz (at_ + 1) dp lc tr pr pc sc pt σ1 (cM c1 nD) := QR_h e5 rfl rfl
    obtain ⟨r, σ2, a, c2, j1, j2, j3, j4⟩ := body_j hQ hd (by omega) (by omega) hf hg hn (by omega)
    have j2' : sp_Rd_readBody g (c1.1, c1.2.1, c1.2.2.1, eset c1.2.2.2.1 c1.2.2.2.2.1 (Sum.inr (2, gx_def gx_kd2)), c1.2.2.2.2.1 + 1, c1.2.2.2.2.2 + 6) = some (some a, c2) := j2
    rw [j1, j2']
    simp only
    obtain ⟨b1, c2', r1, r2⟩ := body_cu hQ.1 hd hg (by omega) (by omega) (by omega)
    rw [j2] at r1
    obtain ⟨hab, hcc⟩ := Prod.mk.inj (Option.some.inj r1)
    have hab' := Option.some.inj hab
    rw [← hcc, ← hab'] at r2
    have hGc : Gc c1 = Gc c := Gc_of e4 (e8.2.2.2.2.1.1 12 (by decide) (by decide) (by decide))
    have hep := end_pre (σ := σ1) (c := c1) (kd := 5) (x := σ1.1 35) (vl := c.2.1 3 l) (kk := 11) (hh := 7 * (12 - dp)) (t1 := tr) (Γ1 := Gc c1) (r := r) (σ1 := σ2) (a1 := a) (c1 := c2) (pt := pt) (pr := pr) e8.1 (by decide) (by omega) (by omega) (by omega) r2 j3 j4 (by rw [if_neg (by decide)]) (by rw [if_neg (by decide)]) (fun _ _ e => absurd e (by decide)) (fun hr hno _ => ?_) (fun _ _ e => absurd e (by decide))
    · obtain ⟨σ3, c3, p1, p2, p3, p4⟩ := hep
      show JO _ _ sz at_ dp lc tr pr pc sc pt σ c (w1I 5 (σ1.1 35) r σ2) _
      rw [p1, p2]
      refine ⟨r, σ3, _, c3, rfl, rfl, rW_tr e6.1 p3, ?_⟩
      rcases p4 with ⟨p5, p6⟩ | p5
      · exact Or.inl ⟨p5, UG_V e8 e6 e7 hGc (by omega) p6⟩
      · exact Or.inr p5
    · have hno1 : noF c1 := by
        have hk := r2.choose_spec.choose_spec.choose_spec.1.2.2.2.2.1.2.2.2.2.2.2.2
        unfold noF at hno ⊢
        refine ⟨Classical.byContradiction fun e => hk 2 (by decide) (by decide) e hno.1, Classical.byContradiction fun e => hk 3 (by decide) (by decide) e hno.2.1, Classical.byContradiction fun e => hk 4 (by decide) (by decide) e hno.2.2⟩
      have hz := e9 hno1
      have hne : c.2.1 3 l ≠ 0 := fun e => hz (by rw [e]; exact and_0)
      have hst : c2.2.1 3 l = c.2.1 3 l := by
        have := r2.choose_spec.choose_spec.choose_spec.1.2.2.2.2.1.2.2.2.2.1 l l1 (by show c1.2.1 3 l ≠ 0; rw [e4]; exact hne)
        rw [this]
        show c1.2.1 3 l = _
        rw [e4]
      refine ⟨l, l1, e3, hst.symm, by rw [hst]; exact hne, ?_⟩
      rw [hGc]
      unfold Gc
      simp [hz]
end J10
