section J22
variable {sz at_ dp lc tr pr pc sc pt n : Nat} {σ : gm_S} {c : ck_S} {f : gm_S → Option (Int32 × gm_S)} {g : ck_S → Option (Option Nat × ck_S)}
theorem UG_W {σ1 σ' : gm_S} {c1 c' : ck_S} {at1 sc1 kk k hh h2 a : Nat} {p : Int32} (hcv : CV sz at_ dp lc tr pc sc c c1 at1 pc sc1) (hrU : rU pr pc pt tr σ σ1) (hE : c1.2.2 = c.2.2) (hG : ∀ l, l < 26 → Gc c1 l = Gc c l) (hle : hh ≤ h2) (h : UG kk hh sz at1 dp lc tr pr pc sc1 pt σ1 c1 p σ' a c') : VG k h2 sz at_ dp lc tr pr pc sc pt σ c p σ' a c' := by
  obtain ⟨at', pc', sc', pt', pn, y1, y2, y3, y4, y5, y6, y7, y8⟩ := h
  have hnx : c1.2.2.2.2.1 = c.2.2.2.2.1 := by rw [hE]
  have h1 := hcv.2.1
  have h2' := y2.2.1
  rw [hnx] at y7 y8
  exact ⟨at', pc', sc', pt', pn, y1, CV_tr hcv y2, rU_tr hrU y3 (Nat.le_refl _) (Nat.le_refl _), by omega, y5, y6, y7, fun hno => nR_mono _ _ _ _ _ hle (nR_G _ _ _ _ _ hG (y8 hno))⟩
theorem newS_j {l : Nat} (hl : l < 26) (hlt : at_ < sz) (h : QR sz at_ dp lc tr pr pc sc pt σ c) (hpk : pk sz at_ c = Int32.ofNat (l + 97)) : ∃ σ0 c0 sc0, σ0 = (if σ.2 31 l = 0 then mP σ else mN 2 at_ (mP σ)) ∧ sp_Rd_readNewSignal c = some (c0.2.1 3 l, c0) ∧ (∀ k w, 4 = k → w ≤ 500 → sp_Rd_readNewSignal (cN k w c) = some (c0.2.1 3 l, cN k w c0)) ∧ QR sz (at_ + 1) dp lc tr pr pc sc0 pt σ0 c0 ∧ CV sz at_ dp lc tr pc sc c c0 (at_ + 1) pc sc0 ∧ rU pr pc pt tr σ σ0 ∧ c0.2.2 = c.2.2 ∧ c0.1 12 = c.1 12 ∧ c0.2.1 3 l ≠ 0 ∧ (c0.2.1 3 l &&& c0.1 12 = 0 ∨ c0.2.1 2 2 ≠ 501) := by
  have hb : c.2.1 2 1 = 501 := h.2.1
  have hs : sz ≤ 500 := h.1.2.1
  have hTL := h.2.2.2.2.2.2.2.2.2.2.2.2.2.2 l hl
  have hCS := h.1.2.2.2.2.2.2.2.2.2.2.2.2.2.2
  have h26 := CS_26 hCS
  have hnew := (newS_eq h.1).2 l hl hlt hb hpk
  have hnew4 : ∀ k w, 4 = k → w ≤ 500 → sp_Rd_readNewSignal (cN k w c) = (if c.2.1 3 l &&& c.1 12 = 0 then (if c.2.1 3 l = 0 then some ((1 : Int32) <<< (Int32.ofNat sc &&& 31), cG l sc (cP (cN k w c))) else some (c.2.1 3 l, cP (cN k w c))) else some (c.2.1 3 l, cN 2 at_ (cP (cN k w c)))) := by
    intro k w hk hw
    subst hk
    have hn := CW_N (k := 4) (w := w) (by decide) (by decide) hw h.1
    have hpk' : pk sz at_ (cN 4 w c) = Int32.ofNat (l + 97) := by
      unfold pk at hpk ⊢
      rw [hn.2.1]
      exact hpk
    exact (newS_eq hn.1).2 l hl hlt (by rw [hn.2.1]; exact hb) hpk'
  have hQ := QR_P h hlt
  have hP := CV_P h.1 hlt hb
  by_cases hz : c.2.1 3 l &&& c.1 12 = 0
  · have h31 := hTL.mpr hz
    rw [if_pos hz] at hnew
    by_cases h0 : c.2.1 3 l = 0
    · rw [if_pos h0] at hnew
      have hG := CW_G hl hQ.1 h0
      have e3 : (cG l sc (cP c)).2.1 3 l = (1 : Int32) <<< (Int32.ofNat sc &&& 31) := (upd_eq : upd (c.2.1 3) l _ l = _)
      have hm : (1 : Int32) <<< (Int32.ofNat sc &&& 31) &&& c.1 12 = 0 := by
        apply bt_az.mpr
        intro q hq
        rw [bt_p2 (by omega)] at hq
        have e := of_decide_eq_true hq
        cases hb' : bt (c.1 12) q
        · rfl
        · have := hCS.2.2.1 q hb'
          omega
      refine ⟨_, cG l sc (cP c), sc + 1, rfl, by rw [e3]; exact hnew, fun k w hk hw => ?_, by rw [if_pos h31]; exact QR_G hl hQ h0, CV_tr hP hG.1, by rw [if_pos h31]; exact rU_P, rfl, rfl, by rw [e3]; exact p2_nz (by omega), Or.inl (by rw [e3]; exact hm)⟩
      have := hnew4 k w hk hw
      rw [if_pos hz, if_pos h0] at this
      rw [this, e3]
      have e4 : cP (cN k w c) = cN k w (cP c) := rfl
      rw [e4, cGN]
    · rw [if_neg h0] at hnew
      refine ⟨_, cP c, sc, rfl, hnew, fun k w hk hw => ?_, by rw [if_pos h31]; exact hQ, hP, by rw [if_pos h31]; exact rU_P, rfl, rfl, h0, Or.inl hz⟩
      have := hnew4 k w hk hw
      rw [if_pos hz, if_neg h0] at this
      exact this
  · have h31 : ¬ (σ.2 31 l = 0) := fun e => hz (hTL.mp e)
    rw [if_neg hz] at hnew
    have hne : c.2.1 3 l ≠ 0 := fun e => hz (by rw [e]; exact and_0)
    have hN := CW_N (k := 2) (w := at_) (by decide) (by decide) (by omega) hQ.1
    refine ⟨_, cN 2 at_ (cP c), sc, rfl, hnew, fun k w hk hw => ?_, by rw [if_neg h31]; exact QR_N (by decide) (by decide) (by omega) (fun _ => by omega) hQ, CV_tr hP (CV_N (by decide) (by decide) (by omega) hP.1), by rw [if_neg h31]; exact rU_tr rU_P rU_N (Nat.le_refl _) (Nat.le_refl _), rfl, rfl, hne, Or.inr hN.2.2⟩
    have := hnew4 k w hk hw
    rw [if_neg hz] at this
    rw [this]
    subst hk
    have e4 : cP (cN 4 w c) = cN 4 w (cP c) := rfl
    rw [e4, cNN]
    rfl
theorem local_j {start : Nat} (hst : start ≤ 500) (h : QR sz at_ dp lc tr pr pc sc pt σ c) (hd : dp ≤ 12) (htr : tr ≤ dp) (hlc : lc ≤ dp) (hf : JF n f g) (hg : BF (n + 1) g) (hn : 12 - dp ≤ n) (hpt : pt ≤ 5 * at_ + 4) : JO 4 (7 * (12 - dp) + 5) sz at_ dp lc tr pr pc sc pt σ c (sp_Md_readLocal f (Int32.ofNat start) σ) (sp_Rd_readLocal g (Int32.ofNat start) c) := by
  have hs : sz ≤ 500 := h.1.2.1
  have ha : at_ ≤ sz := h.1.2.2.2.1
  have h15 : c.1 15 = Int32.ofNat lc := h.1.2.2.2.2.2.2.2.2.2.1
  have h29 : σ.1 29 = Int32.ofNat lc := h.2.2.2.2.2.2.1
  have h27 : σ.1 27 = Int32.ofNat at_ := h.2.2.2.1
  have hb : c.2.1 2 1 = 501 := h.2.1
  have e4 : ∀ z, sp_Rd_note 4 (Int32.ofNat start) z = some (cN 4 start z) := fun z => nt_eq (k := 4) (by decide)
  have m4 : ∀ z, sp_Md_note 4 (Int32.ofNat start) z = some (mN 4 start z) := fun z => mn_eq (k := 4) (by decide)
  have m2 : ∀ z, sp_Md_note 2 (Int32.ofNat at_) z = some (mN 2 at_ z) := fun z => mn_eq (k := 2) (by decide)
  rcases let_j h with ⟨hin, htl⟩ | ⟨l, hl26, hlt, hpk, hin, htl⟩
  · -- no letter
    have hR : sp_Md_readLocal f (Int32.ofNat start) σ = some (0, σ) := by
      unfold sp_Md_readLocal
      rw [htl]
      simp only
      rw [if_pos trivial]
    have blind : ∀ c0, CW sz at_ dp lc tr pc sc c0 → c0.2.1 2 1 = 501 → q_in (pk sz at_ c0) 97 122 = 0 → ∃ a c', (match sp_Rd_readNewSignal c0 with
        | none => none
        | some y2 => cOwn g y2.1 (c0.1 12) y2.2) = some (some a, c') ∧ c'.2.1 2 1 = Int32.ofNat at_ := by
      intro c0 hw0 hb0 hin0
      rw [(newS_eq hw0).1 hin0]
      simp only
      have hr := CW_R hw0
      have s3 := hr.1.2.2.2.2.2.2.2.2.2.2.2.2.2.2.2.2.1
      have r12 : (cR c0).1 12 = c0.1 12 := (CF_R (c := c0) (tr := tr) (pc := pc)).1 12 (by decide) (by decide) (by decide)
      obtain ⟨a, c', q1, at2, pc2, sc2, x1, _⟩ := own_cx (s := 0) hr.1 hd hg (by omega) htr hlc (fun q hq => by rw [bt_0] at hq; cases hq) (told0 := c0.1 12) (fun q hq => s3 q (by rw [r12]; exact hq)) r12
      refine ⟨a, c', q1, ?_⟩
      rw [x1.2.2.2.2.1.2.2.2.2.2.2.1 hr.2.1, hr.2.2.1 hb0]
    unfold sp_Rd_readLocal
    rw [hR, h15]
    by_cases h4 : Int32.ofNat lc < 4
    · rw [if_pos h4]
      obtain ⟨a, c', b1, b2⟩ := blind c h.1 hb hin
      refine ⟨0, σ, a, c', rfl, b1, rW_rf, Or.inr ⟨rfl, by rw [b2, h27], at_, by omega, h27⟩⟩
    · rw [if_neg h4, e4]
      simp only
      have hn4 := CW_N (k := 4) (w := start) (by decide) (by decide) hst h.1
      obtain ⟨a, c', b1, b2⟩ := blind (cN 4 start c) hn4.1 (by rw [hn4.2.1]; exact hb) (by
        have : pk sz at_ (cN 4 start c) = pk sz at_ c := by
          unfold pk
          rw [hn4.2.1]
          rfl
        rw [this]
        exact hin)
      refine ⟨0, σ, a, c', rfl, b1, rW_rf, Or.inr ⟨rfl, by rw [b2, h27], at_, by omega, h27⟩⟩
  · -- a letter
    obtain ⟨σ0, c0, sc0, k1, k2, k3, k4, k5, k6, k7, k8, k9, k10⟩ := newS_j hl26 hlt h hpk
    have hG0 : ∀ l, l < 26 → Gc c0 l = Gc c l := Gc_eq k5 h.1 k8
    have fin : ∀ (σ1 : gm_S) (c1 : ck_S) (R : Option (Int32 × gm_S)) (C : Option (Option Nat × ck_S)), QR sz (at_ + 1) dp lc tr pr pc sc0 pt σ1 c1 → CV sz at_ dp lc tr pc sc c c1 (at_ + 1) pc sc0 → rU pr pc pt tr σ σ1 → c1.2.2 = c.2.2 → (∀ l, l < 26 → Gc c1 l = Gc c l) → c1.2.1 3 l ≠ 0 → (c1.2.1 3 l &&& c1.1 12 = 0 ∨ c1.2.1 2 2 ≠ 501) → R = rOwn f (Int32.ofNat l) σ1 → C = cOwn g (c1.2.1 3 l) (c1.1 12) c1 → JO 4 (7 * (12 - dp) + 5) sz at_ dp lc tr pr pc sc pt σ c R C := by
      intro σ1 c1 R C f1 f2 f3 f4 f5 f6 f7 f8 f9
      obtain ⟨r, σ', a, c', o1, o2, o3, o4⟩ := own_j hl26 f1 hd htr hlc hf hg hn (by omega) f6 f7
      refine ⟨r, σ', a, c', by rw [f8]; exact o1, by rw [f9]; exact o2, rW_tr f3.1 o3, ?_⟩
      rcases o4 with ⟨p5, p6⟩ | p5
      · exact Or.inl ⟨p5, UG_W f2 f3 f4 f5 (by omega) p6⟩
      · exact Or.inr p5
    have hne : ¬ (Int32.ofNat l = -1) := fun e' => by
      have h1 : (Int32.ofNat l).toInt = l := Int32.toInt_ofNat_of_lt (by omega)
      rw [e', show (-1 : Int32).toInt = -1 from rfl] at h1
      omega
    have hcl : (Int32.ofNat l).toNatClampNeg = l := cl_of (by omega)
    have hP29 : (mP σ).1 29 = Int32.ofNat lc := h29
    have hN29 : (mN 2 at_ (mP σ)).1 29 = Int32.ofNat lc := by rw [(mN_o (σ := mP σ) (k := 2) (w := at_)).1]; exact h29
    have hR : sp_Md_readLocal f (Int32.ofNat start) σ = (if Int32.ofNat lc < 4 then rOwn f (Int32.ofNat l) σ0 else rOwn f (Int32.ofNat l) (mN 4 start σ0)) := by
      have hmp : (mP σ).2 31 l = σ.2 31 l := rfl
      unfold sp_Md_readLocal
      rw [htl]
      simp only
      rw [if_neg hne, if_pos (gi_of hl26 (by decide)), hcl, hmp, h27, m2, m4, hP29]
      simp only
      rw [hN29, m4]
      simp only
      rw [k1]
      by_cases h31 : σ.2 31 l = 0
      · rw [if_pos h31, if_pos h31]
        unfold rOwn
        rw [hcl, hP29]
        rfl
      · rw [if_neg h31, if_neg h31]
        unfold rOwn
        rw [hcl, hN29]
        rfl
    have hC : sp_Rd_readLocal g (Int32.ofNat start) c = (if Int32.ofNat lc < 4 then cOwn g (c0.2.1 3 l) (c0.1 12) c0 else cOwn g (c0.2.1 3 l) (c0.1 12) (cN 4 start c0)) := by
      unfold sp_Rd_readLocal
      rw [h15, k2, e4]
      simp only
      rw [k3 4 start rfl hst]
      have e12 : (cN 4 start c).1 12 = c0.1 12 := by rw [k8]; rfl
      rw [e12, ← k8]
      rfl
    rw [hR, hC]
    by_cases h4 : Int32.ofNat lc < 4
    · rw [if_pos h4, if_pos h4]
      exact fin σ0 c0 _ _ k4 k5 k6 k7 hG0 k9 k10 rfl rfl
    · rw [if_neg h4, if_neg h4]
      refine fin (mN 4 start σ0) (cN 4 start c0) _ _ (QR_N (by decide) (by decide) hst (fun e => absurd e (by decide)) k4) (CV_tr k5 (CV_N (by decide) (by decide) hst k4.1)) (rU_tr k6 rU_N (Nat.le_refl _) (Nat.le_refl _)) k7 hG0 k9 ?_ rfl rfl
      rcases k10 with e | e
      · exact Or.inl e
      · right
        have : (cN 4 start c0).2.1 2 2 = c0.2.1 2 2 := (upd_ne (by decide) : upd (c0.2.1 2) 4 (q_min (c0.2.1 2 4) (Int32.ofNat start)) 2 = _)
        rw [this]
        exact e
end J22
