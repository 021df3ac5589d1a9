section J25
variable {sz at_ dp lc tr pr pc sc pt n : Nat} {σ : gm_S} {c : ck_S} {f : gm_S → Option (Int32 × gm_S)} {g : ck_S → Option (Option Nat × ck_S)}
theorem eta_m (R : Option (Int32 × gm_S)) : (match R with
    | none => none
    | some y => some (y.1, y.2)) = R := by cases R <;> rfl
theorem eta_c (R : Option (Option Nat × ck_S)) : (match R with
    | none => none
    | some y => some (y.1, y.2)) = R := by cases R <;> rfl
theorem JO_U {hh h2 : Nat} {R : Option (Int32 × gm_S)} {C : Option (Option Nat × ck_S)} (h : QR sz at_ dp lc tr pr pc sc pt σ c) (hl : at_ < sz) (hle : hh ≤ h2) (k : JO 4 hh sz (at_ + 1) dp lc tr pr pc sc pt (mP σ) (cP c) R C) : JUo 1 h2 sz at_ dp lc tr pr pc sc pt σ c R C := by
  obtain ⟨r, σ', a, c', k1, k2, k3, k4⟩ := k
  have hP := CV_P h.1 hl h.2.1
  refine ⟨r, σ', a, c', k1, k2, rW_tr (rU_P (pr := pr) (pc := pc) (pt := pt) (tr := tr)).1 k3, ?_⟩
  rcases k4 with ⟨hr, at', pc', sc', pt', pn, y1, y2, y3, y4, y5, y6, y7, y8⟩ | e
  · have := y2.2.1
    exact Or.inl ⟨hr, at', pc', sc', pt', pn, y1, CV_tr hP y2, rU_tr rU_P y3 (Nat.le_refl _) (Nat.le_refl _), by omega, y5, y6, y7, fun hno => nR_mono _ _ _ _ _ hle (y8 hno)⟩
  · exact Or.inr e
theorem JUo_cg {kk hh : Nat} {R R' : Option (Int32 × gm_S)} {C C' : Option (Option Nat × ck_S)} (h1 : R = R') (h2 : C = C') (k : JUo kk hh sz at_ dp lc tr pr pc sc pt σ c R' C') : JUo kk hh sz at_ dp lc tr pr pc sc pt σ c R C := by rw [h1, h2]; exact k
def rBang (σ : gm_S) : Option (Int32 × gm_S) := (match sp_Md_isNamed 1 σ with
  | none => none
  | some y3 => (if y3.1 = 0 then some (0, y3.2) else (match sp_Md_makePart 2 (y3.2.1 35) 0 y3.2 with
    | none => none
    | some y5 => some (1, ((upd y5.2.1 34 y5.1), y5.2.2)))))
def cBang (c : ck_S) : Option (Option Nat × ck_S) := (match sp_Rd_readEmittedSignal c with
  | none => none
  | some y3 => (match sp_Rd_newEmit y3.1 y3.2 with
    | none => none
    | some y4 => some (y4.1, y4.2)))
theorem bang_j {hh : Nat} (hh1 : 1 ≤ hh) (h : QR sz at_ dp lc tr pr pc sc pt σ c) (htr : tr ≤ 14) (hpt : pt ≤ 5 * at_ + 4) : JO 4 hh sz at_ dp lc tr pr pc sc pt σ c (rBang σ) (cBang c) := by
  have hs : sz ≤ 500 := h.1.2.1
  have ha : at_ ≤ sz := h.1.2.2.2.1
  unfold rBang cBang
  rcases named_j true h with ⟨s, c1, σ1, e1, e2, e3, e4, e5⟩ | ⟨l, c1, σ1, l1, l2, e1, e2, e3, e4, e5, e6, e7, e8, e9⟩
  · have e1' : sp_Rd_readEmittedSignal c = some (s, c1) := e1
    have e2' : sp_Md_isNamed 1 σ = some (0, σ1) := e2
    rw [e1', e2']
    simp only
    rw [if_pos trivial]
    obtain ⟨hfb, at1, q2, q3⟩ := emit_fb h e1' e3 e4
    rw [emit_eq]
    exact ⟨0, σ1, _, _, rfl, rfl, e5, Or.inr ⟨rfl, hfb⟩⟩
  · have e1' : sp_Rd_readEmittedSignal c = some (c.2.1 3 l, c1) := e1
    have e2' : sp_Md_isNamed 1 σ = some (1, σ1) := e2
    rw [e1', e2']
    simp only
    rw [if_neg (by decide)]
    have g12 : c1.1 12 = c.1 12 := e8.2.2.2.2.1.1 12 (by decide) (by decide) (by decide)
    have hGc : Gc c1 = Gc c := Gc_of e4 g12
    obtain ⟨m1, m2, m3⟩ := emit_j (hh := hh) (tq := tr) (x := σ1.1 35) (s := c.2.1 3 l) hh1 e5 (by omega) htr (fun hno => sig_k (c := c) (tr := tr) (pc := pc) (CF_rf (c := c1)) l1 e4 g12 e3 e9 hno)
    rw [m1, m2]
    have hv := VX_V (h2 := hh) e8 e6 e7 hGc (Nat.le_refl _) (VX_n (σ2 := (upd (upd σ1.1 19 (Int32.ofNat (pt + 1))) 34 (Int32.ofNat pt), mkA σ1.2 pt 2 (σ1.1 35) 0)) m3 (fun j j1 _ => upd_ne j1) rfl)
    exact ⟨1, _, _, _, rfl, rfl, hv.2.2.1.1, Or.inl ⟨rfl, _, _, _, _, _, VX_k (by omega) hv⟩⟩
theorem zero_j {hh : Nat} (hh1 : 1 ≤ hh) (h : QR sz at_ dp lc tr pr pc sc pt σ c) (htr : tr ≤ 14) (hpt : pt ≤ 5 * at_ + 4) : JO 4 hh sz at_ dp lc tr pr pc sc pt σ c (match sp_Md_makePart 0 (-1) 0 σ with
    | none => none
    | some y24 => some (1, ((upd y24.2.1 34 y24.1), y24.2.2))) (match sp_Rd_nothing c with
    | none => none
    | some y22 => some (y22.1, y22.2)) := by
  have hs : sz ≤ 500 := h.1.2.1
  have ha : at_ ≤ sz := h.1.2.2.2.1
  obtain ⟨m1, m2, m3⟩ := noth_j (hh := hh) (tq := tr) hh1 h (by omega) htr
  rw [m1, m2]
  have hv := VX_n (σ2 := (upd (upd σ.1 19 (Int32.ofNat (pt + 1))) 34 (Int32.ofNat pt), mkA σ.2 pt 0 (-1) 0)) m3 (fun j j1 _ => upd_ne j1) rfl
  exact ⟨1, _, _, _, rfl, rfl, hv.2.2.1.1, Or.inl ⟨rfl, _, _, _, _, _, VX_k (by omega) hv⟩⟩
theorem one_j {start hh : Nat} (hst : start ≤ 500) (hh1 : 1 ≤ hh) (h : QR sz at_ dp lc tr pr pc sc pt σ c) (hp : pc + 1 ≤ at_) (htr : tr ≤ 14) (hpt : pt ≤ 5 * at_ + 4) : JO 4 hh sz at_ dp lc tr pr pc sc pt σ c (match sp_Md_pause (Int32.ofNat start) σ with
    | none => none
    | some y26 => some (1, ((upd y26.2.1 34 y26.1), y26.2.2))) (match sp_Rd_newPause (Int32.ofNat start) c with
    | none => none
    | some y24 => some (y24.1, y24.2)) := by
  have hs : sz ≤ 500 := h.1.2.1
  have ha : at_ ≤ sz := h.1.2.2.2.1
  obtain ⟨σ1, c1, p1, p2, p3, p4, p5, p6, p7, p8⟩ := pause_j (hh := hh) (tq := tr) (start := start) hh1 h (by omega) hp hst htr
  rw [p1, p2]
  have hv := VX_n (σ2 := (upd σ1.1 34 (Int32.ofNat pt), σ1.2)) p3 (fun j j1 _ => upd_ne j1) rfl
  exact ⟨1, _, _, _, rfl, rfl, hv.2.2.1.1, Or.inl ⟨rfl, _, _, _, _, _, VX_k (by omega) hv⟩⟩
theorem unit_j (h : QR sz at_ dp lc tr pr pc sc pt σ c) (hd : dp ≤ 12) (htr : tr ≤ dp) (hlc : lc ≤ dp) (hf : JF n f g) (hg : BF (n + 1) g) (hn : 12 - dp ≤ n) (hpt : pt ≤ 5 * at_ + 4) : JUo 1 (7 * (12 - dp) + 5) sz at_ dp lc tr pr pc sc pt σ c (sp_Md_readU f σ) (sp_Rd_readUnit g c) := by
  have hs : sz ≤ 500 := h.1.2.1
  have ha : at_ ≤ sz := h.1.2.2.2.1
  have h27 : σ.1 27 = Int32.ofNat at_ := h.2.2.2.1
  have h8 : c.1 8 = Int32.ofNat at_ := h.1.2.2.1
  have hb : c.2.1 2 1 = 501 := h.2.1
  have hpc : pc ≤ at_ := h.1.2.2.2.2.2.2.2.2.2.2.2.2.1
  have hr := CW_R h.1
  have hσb : ((upd (upd σ.1 27 (σ.1 27 + 1)) 27 (σ.1 27), σ.2) : gm_S) = σ := by rw [upd_upd, upd_self]
  have refuse : JUo 1 (7 * (12 - dp) + 5) sz at_ dp lc tr pr pc sc pt σ c (some (0, σ)) (match sp_Rd_readNoUnit c with
      | none => none
      | some y36 => some (y36.1, y36.2)) := by
    unfold sp_Rd_readNoUnit
    rw [rf_eq]
    simp only
    rw [nothing_eq]
    refine ⟨0, σ, _, _, rfl, rfl, rW_rf, Or.inr ⟨rfl, ?_, at_, by omega, h27⟩⟩
    show (cR c).2.1 2 1 = _
    rw [hr.2.2.1 hb, h27]
  unfold sp_Md_readU sp_Rd_readUnit
  rw [see_eq h, ta_eq h.1]
  simp only
  rcases sv_pk h with ⟨hl, ch, c1, c2, c3, c4⟩ | ⟨hsz, c1, c2⟩
  · have hQ := QR_P h hl
    have hX1 : ¬ (Int32.ofNat ch = -1) := fun e => by
      have h1 : (Int32.ofNat ch).toInt = ch := Int32.toInt_ofNat_of_lt (by omega)
      rw [e, show (-1 : Int32).toInt = -1 from rfl] at h1
      omega
    have hcb : ((upd (cP c).1 8 (c.1 8), (cP c).2.1, (cP c).2.2.1, (cP c).2.2.2.1, (cP c).2.2.2.2.1, (cP c).2.2.2.2.2) : ck_S) = c := by
      show (upd (upd c.1 8 (c.1 8 + 1)) 8 (c.1 8), c.2) = c
      rw [upd_upd, upd_self]
    have hpkk := pkk_eq h.1
    rw [c3, c4, if_neg hX1, hσb, hcb, hpkk]
    simp only
    rw [c4]
    generalize hX : Int32.ofNat ch = X at *
    by_cases q33 : X = 33
    · rw [if_pos q33, if_pos q33]
      exact JUo_cg rfl rfl (JO_U h hl (Nat.le_refl _) (bang_j (hh := 7 * (12 - dp) + 5) (by omega) hQ (by omega) (by omega)))
    rw [if_neg q33, if_neg q33]
    by_cases q35 : X = 35
    · rw [if_pos q35, if_pos q35]
      exact JUo_cg (eta_m _) (eta_c _) (JO_U h hl (Nat.le_refl _) (susp_j hQ hd htr hlc hf hg hn (by omega)))
    rw [if_neg q35, if_neg q35]
    by_cases q36 : X = 36
    · rw [if_pos q36, if_pos q36]
      exact JUo_cg (eta_m _) rfl (JO_U h hl (Nat.le_refl _) (trap_j hQ hd htr hlc hf hg hn (by omega)))
    rw [if_neg q36, if_neg q36]
    by_cases q37 : X = 37
    · rw [if_pos q37, if_pos q37]
      exact JUo_cg (by rw [← h27]; exact eta_m _) (by rw [← h8]; exact eta_c _) (JO_U h hl (Nat.le_refl _) (abort_j (start := at_) (v2 := 1) (by omega) hQ (by omega) hd htr hlc hf hg hn (by omega)))
    rw [if_neg q37, if_neg q37]
    by_cases q38 : X = 38
    · rw [if_pos q38, if_pos q38]
      exact JUo_cg (by rw [← h27]; exact rfl) (by rw [← h8]; exact rfl) (JO_U h hl (Nat.le_refl _) (amp_j (start := at_) (hh := 7 * (12 - dp) + 5) (by omega) (by omega) hQ (by omega) (by omega) (by omega)))
    rw [if_neg q38, if_neg q38]
    by_cases q40 : X = 40
    · rw [if_pos q40]
      have n42 : ¬ (X = 42) := by rw [q40]; decide
      have n46 : ¬ (X = 46) := by rw [q40]; decide
      have n48 : ¬ (X = 48) := by rw [q40]; decide
      have n49 : ¬ (X = 49) := by rw [q40]; decide
      have n63 : ¬ (X = 63) := by rw [q40]; decide
      have n64 : ¬ (X = 64) := by rw [q40]; decide
      have n94 : ¬ (X = 94) := by rw [q40]; decide
      have n126 : ¬ (X = 126) := by rw [q40]; decide
      rw [if_neg n42, if_neg n46, if_neg n48, if_neg n49, if_neg n63, if_neg n64, if_neg n94, if_neg n126, if_pos q40]
      refine JUo_cg (R' := sp_Md_readInner f σ) (C' := sp_Rd_readBody g c) (by exact eta_m _) (by exact eta_c _) ?_
      obtain ⟨r, σ', a, c', k1, k2, k3, k4⟩ := body_j h hd (by omega) (by omega) hf hg hn (by omega)
      refine ⟨r, σ', a, c', k1, k2, k3, ?_⟩
      rcases k4 with ⟨hr', at', pc', sc', pt', pn, y1, y2, y3, y4, y5, y6, y7, y8⟩ | e
      · exact Or.inl ⟨hr', at', pc', sc', pt', pn, y1, y2, y3, by omega, y5, y6, y7, fun hno => nR_mono _ _ _ _ _ (by omega) (y8 hno)⟩
      · exact Or.inr e
    rw [if_neg q40]
    by_cases q42 : X = 42
    · rw [if_pos q42, if_pos q42]
      exact JUo_cg (by rw [← h27]; exact eta_m _) (by rw [← h8]; exact eta_c _) (JO_U h hl (Nat.le_refl _) (loop_j (start := at_) (by omega) hQ hd htr hlc hf hg hn (by omega)))
    rw [if_neg q42, if_neg q42]
    by_cases q46 : X = 46
    · rw [if_pos q46, if_pos q46]
      exact JUo_cg (eta_m _) (eta_c _) (JO_U h hl (Nat.le_refl _) (exit_j (hh := 7 * (12 - dp) + 5) (by omega) hQ (by omega) (by omega)))
    rw [if_neg q46, if_neg q46]
    by_cases q48 : X = 48
    · rw [if_pos q48, if_pos q48]
      exact JUo_cg rfl rfl (JO_U h hl (Nat.le_refl _) (zero_j (hh := 7 * (12 - dp) + 5) (by omega) hQ (by omega) (by omega)))
    rw [if_neg q48, if_neg q48]
    by_cases q49 : X = 49
    · rw [if_pos q49, if_pos q49]
      exact JUo_cg (by rw [← h27]; exact rfl) (by rw [← h8]; exact rfl) (JO_U h hl (Nat.le_refl _) (one_j (start := at_) (hh := 7 * (12 - dp) + 5) (by omega) (by omega) hQ (by omega) (by omega) (by omega)))
    rw [if_neg q49, if_neg q49]
    by_cases q63 : X = 63
    · rw [if_pos q63, if_pos q63]
      exact JUo_cg (eta_m _) (eta_c _) (JO_U h hl (Nat.le_refl _) (ask_j hQ hd htr hlc hf hg hn (by omega)))
    rw [if_neg q63, if_neg q63]
    by_cases q64 : X = 64
    · rw [if_pos q64, if_pos q64]
      exact JUo_cg (by rw [← h27]; exact eta_m _) (by rw [← h8]; exact eta_c _) (JO_U h hl (Nat.le_refl _) (local_j (start := at_) (by omega) hQ hd htr hlc hf hg hn (by omega)))
    rw [if_neg q64, if_neg q64]
    by_cases q94 : X = 94
    · rw [if_pos q94, if_pos q94]
      exact JUo_cg (by rw [← h27]; exact rfl) (by rw [← h8]; exact rfl) (JO_U h hl (Nat.le_refl _) (car_j (start := at_) (hh := 7 * (12 - dp) + 5) (by omega) (by omega) hQ (by omega) (by omega) (by omega)))
    rw [if_neg q94, if_neg q94]
    by_cases q126 : X = 126
    · rw [if_pos q126, if_pos q126]
      exact JUo_cg (by rw [← h27]; exact eta_m _) (by rw [← h8]; exact eta_c _) (JO_U h hl (Nat.le_refl _) (abort_j (start := at_) (v2 := 0) (by omega) hQ (by omega) hd htr hlc hf hg hn (by omega)))
    rw [if_neg q126, if_neg q126, if_neg q40]
    exact refuse
  · have hcb : ((upd c.1 8 (c.1 8), c.2.1, c.2.2.1, c.2.2.2.1, c.2.2.2.2.1, c.2.2.2.2.2) : ck_S) = c := by
      show (upd c.1 8 (c.1 8), c.2) = c
      rw [upd_self]
    have hpkk := pkk_eq h.1
    rw [c1, c2, if_pos rfl, hσb, hcb, hpkk]
    simp only
    rw [c2]
    have d0 : ∀ x : Int32, x ≠ 0 → ¬ ((0 : Int32) = x) := fun x hx e => hx e.symm
    have d1 : ∀ x : Int32, x ≠ -1 → ¬ ((-1 : Int32) = x) := fun x hx e => hx e.symm
    rw [if_neg (d0 33 (by decide)), if_neg (d0 35 (by decide)), if_neg (d0 36 (by decide)), if_neg (d0 37 (by decide)), if_neg (d0 38 (by decide)), if_neg (d0 40 (by decide)), if_neg (d0 42 (by decide)), if_neg (d0 46 (by decide)), if_neg (d0 48 (by decide)), if_neg (d0 49 (by decide)), if_neg (d0 63 (by decide)), if_neg (d0 64 (by decide)), if_neg (d0 94 (by decide)), if_neg (d0 126 (by decide))]
    rw [if_neg (d1 33 (by decide)), if_neg (d1 35 (by decide)), if_neg (d1 36 (by decide)), if_neg (d1 37 (by decide)), if_neg (d1 38 (by decide)), if_neg (d1 42 (by decide)), if_neg (d1 46 (by decide)), if_neg (d1 48 (by decide)), if_neg (d1 49 (by decide)), if_neg (d1 63 (by decide)), if_neg (d1 64 (by decide)), if_neg (d1 94 (by decide)), if_neg (d1 126 (by decide)), if_neg (d1 40 (by decide))]
    exact refuse
end J25
