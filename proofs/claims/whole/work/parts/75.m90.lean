section H14
variable {lim sz at_ pr pt : Nat} {σ : gm_S} {c : ck_S}
theorem m55_s {m : Nat} : sp_Md_isModule_55 (m + 1) 1 σ = if (σ.1 3) ≤ (σ.1 27) then sp_Md_isModule_99 2601 1 2 ((upd (upd σ.1 36 1) 37 (σ.1 27)), σ.2) else rNx m σ := by
  rw [sp_Md_isModule_55, if_neg (by decide)]
  rfl
theorem rt_s {m : Nat} (h1 : 1 ≤ pr) (h6 : pr < 6) (h : CT sz at_ c) : sp_Rd_readText_35 (m + 1) (Int32.ofNat pr) c = if pk sz at_ c = -1 then some (Int32.ofNat pr, c) else cNx m (Int32.ofNat pr) c := by
  rw [sp_Rd_readText_35, if_neg (show ¬ ((6 : Int32) ≤ Int32.ofNat pr) from fun e => by have := (le_N (a := 6) (by decide) (by omega)).mp e; omega), if_neg (ofN_ne0 (by omega) (by omega)), pkT h]
  simp only
  by_cases hq : pk sz at_ c = -1
  · rw [if_pos hq, if_pos hq, pkT h]
    simp only
    rw [if_pos hq]
  · rw [if_neg hq, if_neg hq]
    rfl
theorem rt_6 {m : Nat} (h : CT sz at_ c) : sp_Rd_readText_35 (m + 1) (Int32.ofNat 6) c = if pk sz at_ c = -1 then some (Int32.ofNat 6, c) else some (Int32.ofNat 6, cR c) := by
  rw [sp_Rd_readText_35, if_pos (by decide), pkT h]
  simp only
  by_cases hq : pk sz at_ c = -1
  · rw [if_pos hq, if_pos hq]
  · rw [if_neg hq, if_neg hq, rf_eq]
theorem end_t {b m' : Nat} {g : Nat → Option Nat} (h1 : 1 ≤ pr) (h6 : pr ≤ 6) (hC : sp_Rd_readText_35 m' (Int32.ofNat pr) c = some (Int32.ofNat pr, c)) (h : IV lim sz at_ pr pt b σ c g) : TJ lim b σ (sp_Md_isModule_99 2601 1 2 ((upd (upd σ.1 36 1) 37 (σ.1 27)), σ.2)) (sp_Rd_readText_35 m' (Int32.ofNat pr) c) := by
  obtain ⟨a1, a2, a3, a4, a5, a6⟩ := h
  have hA : AL sz at_ ((upd (upd σ.1 36 1) 37 (σ.1 27)), σ.2) c := a1.1
  obtain ⟨r, σ', r1, r2, r3, r4, r5⟩ := m99_j (m := 2601) (v1 := 1) (σ := ((upd (upd σ.1 36 1) 37 (σ.1 27)), σ.2)) (by decide) hA a1.2.2.2.2.2.2.1 a1.2.2.2.2.2.2.2.1 a1.2.2.2.2.2.2.2.2.1
  rw [r1, hC]
  refine ⟨r, σ', pr, c, g, rfl, rfl, rY_tr rY_36 r2, a3, ?_⟩
  rcases r5 with ⟨e1, e2, e3⟩ | e
  · refine Or.inl ⟨e1, e2, r4.1.trans a1.2.2.2.2.1.1, h1, h6, ?_, ?_⟩
    · unfold PS
      rw [r3]
      exact a6 e3
    · refine ⟨pt, ?_, r4.2.trans a1.2.2.2.2.2.1.1, fun k hk => by rw [r3]; exact a5 k hk⟩
      have := a1.2.2.2.2.2.1.2
      have := hA.1.2.1
      have := hA.1.2.2.2.1
      omega
  · exact Or.inr e
theorem text_j {b : Nat} : ∀ (d pr m m' at_ pt : Nat) (σ : gm_S) (c : ck_S) (g : Nat → Option Nat), pr + d = 6 → 1 ≤ pr → d + 1 < m → d + 1 < m' → IV lim sz at_ pr pt b σ c g → TJ lim b σ (sp_Md_isModule_55 m 1 σ) (sp_Rd_readText_35 m' (Int32.ofNat pr) c) := by
  intro d
  induction d with
  | zero =>
    intro pr m m' at_ pt σ c g hd h1 hm hm' h
    obtain ⟨m, rfl⟩ : ∃ i, m = i + 1 + 1 := ⟨m - 2, by omega⟩
    obtain ⟨m', rfl⟩ : ∃ i, m' = i + 1 := ⟨m' - 1, by omega⟩
    have : pr = 6 := by omega
    subst this
    have hA := h.1.1
    have hs : sz ≤ 500 := hA.1.2.1
    rw [m55_s, hA.2.2.1, hA.2.2.2.1]
    rcases sv_a hA with ⟨hlt, ch, g1, g2, g3, g4⟩ | ⟨he, _, hpk⟩
    · rw [if_neg (fun e => by have := (le_N (by omega) (by omega)).mp e; omega), rt_6 hA.1, if_neg (by rw [g4]; exact ofN_n1 (by omega))]
      unfold rNx
      rw [full6 h.1]
      simp only
      rw [sp_Md_isModule_55, if_pos rfl]
      have hR := CT_R hA.1
      refine ⟨0, _, 6, cR c, g, rfl, rfl, rY_36, AR_F h.2.2.1 hR.2.2.2, Or.inr ⟨rfl, ?_, (show ¬ ((1 : Int32) = 0) by decide)⟩⟩
      show FK (cR c) (Int32.ofNat 1) (σ.1 27)
      rw [hA.2.2.2.1, ← hR.2.2.1 hA.2.1]
      exact FK_k (by decide) (by decide) hR.2.1 (fun j j1 j2 => by omega)
    · rw [if_pos ((le_N (by omega) (by omega)).mpr (by omega)), ← hA.2.2.2.1]
      exact end_t (by decide) (by decide) (by rw [rt_6 hA.1, if_pos hpk]) h
  | succ d ih =>
    intro pr m m' at_ pt σ c g hd h1 hm hm' h
    obtain ⟨m, rfl⟩ : ∃ i, m = i + 1 := ⟨m - 1, by omega⟩
    obtain ⟨m', rfl⟩ : ∃ i, m' = i + 1 := ⟨m' - 1, by omega⟩
    have hA := h.1.1
    have hs : sz ≤ 500 := hA.1.2.1
    rw [m55_s, hA.2.2.1, hA.2.2.2.1]
    rcases sv_a hA with ⟨hlt, ch, g1, g2, g3, g4⟩ | ⟨he, _, hpk⟩
    · rw [if_neg (fun e => by have := (le_N (by omega) (by omega)).mp e; omega), rt_s h1 (by omega) hA.1, if_neg (by rw [g4]; exact ofN_n1 (by omega))]
      exact next_j (by omega) (by omega) (by omega) h (fun at1 pt1 σ1 c1 g1 h' => ih (pr + 1) m m' at1 pt1 σ1 c1 g1 (by omega) (by omega) (by omega) (by omega) h')
    · rw [if_pos ((le_N (by omega) (by omega)).mpr (by omega)), ← hA.2.2.2.1]
      exact end_t h1 (by omega) (by rw [rt_s h1 (by omega) hA.1, if_pos hpk]) h
theorem fill2 : ∀ (k m : Nat) (c : ck_S), k ≤ 5 → k < m → ∃ f, sp_Arrays_fill_2_5 m 501 (Int32.ofNat (5 - k)) 5 c = some (c.1, gm_up c.2.1 2 f, c.2.2) ∧ (∀ i, 5 - k ≤ i → i < 5 → f i = 501) ∧ (∀ i, i < 5 - k → f i = c.2.1 2 i) := by
  intro k
  induction k with
  | zero =>
    intro m c _ hm
    obtain ⟨m, rfl⟩ : ∃ j, m = j + 1 := ⟨m - 1, by omega⟩
    refine ⟨c.2.1 2, ?_, fun i h1 h2 => by omega, fun i _ => rfl⟩
    unfold sp_Arrays_fill_2_5
    rw [if_pos (show (5 : Int32) ≤ Int32.ofNat (5 - 0) by decide), gm_upI]
  | succ k ih =>
    intro m c hk hm
    obtain ⟨m, rfl⟩ : ∃ j, m = j + 1 := ⟨m - 1, by omega⟩
    unfold sp_Arrays_fill_2_5
    rw [if_neg (show ¬ ((5 : Int32) ≤ Int32.ofNat (5 - (k + 1))) from fun e => by have := (le_N (a := 5) (by decide) (by omega)).mp e; omega), if_pos (gi_of (by omega) (by decide)), cl_of (by omega), ofN_s, show 5 - (k + 1) + 1 = 5 - k by omega]
    obtain ⟨f, f1, f2, f3⟩ := ih m (c.1, gm_up c.2.1 2 (upd (c.2.1 2) (5 - (k + 1)) 501), c.2.2.1, c.2.2.2.1, c.2.2.2.2.1, c.2.2.2.2.2) (by omega) (by omega)
    refine ⟨f, ?_, fun i h1 h2 => ?_, fun i hi => ?_⟩
    · rw [f1]
      show some (c.1, gm_up (gm_up c.2.1 2 _) 2 f, c.2.2) = _
      rw [gm_up2]
    · by_cases h3 : 5 - k ≤ i
      · exact f2 i h3 h2
      · rw [f3 i (by omega)]
        show upd (c.2.1 2) (5 - (k + 1)) 501 i = 501
        rw [show i = 5 - (k + 1) by omega, upd_eq]
    · rw [f3 i (by omega)]
      show upd (c.2.1 2) (5 - (k + 1)) 501 i = _
      rw [upd_ne (by omega)]
theorem m32 : ∀ (k m : Nat) (σ : gm_S), k ≤ 5 → k < m → ∃ f, sp_Md_isModule_32 m (Int32.ofNat (5 - k)) σ = rNx 2601 (σ.1, gm_up σ.2 30 f) ∧ (∀ i, 5 - k ≤ i → i < 5 → f i = -1) ∧ (∀ i, i < 5 - k → f i = σ.2 30 i) := by
  intro k
  induction k with
  | zero =>
    intro m σ _ hm
    obtain ⟨m, rfl⟩ : ∃ j, m = j + 1 := ⟨m - 1, by omega⟩
    refine ⟨σ.2 30, ?_, fun i h1 h2 => by omega, fun i _ => rfl⟩
    rw [sp_Md_isModule_32, if_pos (show (5 : Int32) ≤ Int32.ofNat (5 - 0) by decide), gm_upI]
    rfl
  | succ k ih =>
    intro m σ hk hm
    obtain ⟨m, rfl⟩ : ∃ j, m = j + 1 := ⟨m - 1, by omega⟩
    obtain ⟨f, f1, f2, f3⟩ := ih m (σ.1, gm_up σ.2 30 (upd (σ.2 30) (5 - (k + 1)) (-1))) (by omega) (by omega)
    refine ⟨f, ?_, fun i h1 h2 => ?_, fun i hi => ?_⟩
    · rw [sp_Md_isModule_32, if_neg (show ¬ ((5 : Int32) ≤ Int32.ofNat (5 - (k + 1))) from fun e => by have := (le_N (a := 5) (by decide) (by omega)).mp e; omega), if_pos (gi_of (by omega) (by decide)), cl_of (by omega), ofN_s, show 5 - (k + 1) + 1 = 5 - k by omega, f1]
      show rNx 2601 (σ.1, gm_up (gm_up σ.2 30 _) 30 f) = _
      rw [gm_up2]
    · by_cases h3 : 5 - k ≤ i
      · exact f2 i h3 h2
      · rw [f3 i (by omega)]
        show upd (σ.2 30) (5 - (k + 1)) (-1) i = -1
        rw [show i = 5 - (k + 1) by omega, upd_eq]
    · rw [f3 i (by omega)]
      show upd (σ.2 30) (5 - (k + 1)) (-1) i = _
      rw [upd_ne (by omega)]
def RDo (b sz : Nat) (c c' : ck_S) : Prop := c'.1 6 = 0 ∧ c'.2.2.1 = c.2.2.1 ∧ c'.2.1 1 = c.2.1 1 ∧ (∀ q, q < c.2.2.2.2.1 → q ≠ b → c'.2.2.2.1 q = c.2.2.2.1 q) ∧ c.2.2.2.2.1 ≤ c'.2.2.2.2.1 ∧ c'.2.2.2.2.1 ≤ c.2.2.2.2.1 + 12 * sz + 18 ∧ c'.2.2.2.2.2 ≤ c.2.2.2.2.2 + 72 * sz + 246
theorem whole_t {b : Nat} {g : Nat → Option Nat} (h3 : σ.1 3 = Int32.ofNat sz) (hs : sz ≤ 500) (h6 : c.1 6 = Int32.ofNat sz) (hch : ∀ i, i < sz → ∃ ch, 33 ≤ ch ∧ ch ≤ 126 ∧ c.2.1 1 i = Int32.ofNat ch) (ht : ∀ i, i < sz → σ.2 4 i = c.2.1 1 i) (hr : AR b c g) (hlim : lim ≤ c.2.2.2.2.1) (h49 : σ.2 49 0 = 0) : TJ lim b σ (sp_Md_isModule σ) (sp_Rd_readText c) ∧ ∃ n c' g', sp_Rd_readText c = some (Int32.ofNat n, c') ∧ n ≤ 6 ∧ AR b c' g' ∧ RDo b sz c c' := by
  obtain ⟨f, f1, f2, _⟩ := fill2 5 2601 c (Nat.le_refl _) (by decide)
  obtain ⟨f', f1', f2', _⟩ := m32 5 2601 ((upd (upd (upd (upd (upd (upd σ.1 27 0) 28 0) 29 0) 32 0) 10 0) 19 0), σ.2) (Nat.le_refl _) (by decide)
  have e : sp_Arrays_fill_2 501 c = some (c.1, gm_up c.2.1 2 f, c.2.2) := f1
  have e' : sp_Md_isModule σ = rNx 2601 ((upd (upd (upd (upd (upd (upd σ.1 27 0) 28 0) 29 0) 32 0) 10 0) 19 0), gm_up σ.2 30 f') := f1'
  have hR : sp_Rd_readText c = sp_Rd_readText_35 2601 (Int32.ofNat 0) ((upd (upd (upd (upd c.1 7 (c.1 6)) 6 0) 8 0) 9 0), gm_up c.2.1 2 f, c.2.2) := by
    unfold sp_Rd_readText
    rw [e]
    rfl
  have hC0 : CT sz 0 ((upd (upd (upd (upd c.1 7 (c.1 6)) 6 0) 8 0) 9 0), gm_up c.2.1 2 f, c.2.2) := ⟨h6, hs, rfl, by omega, hch, fun k k1 k4 => Or.inl (f2 k (by omega) (by omega))⟩
  have hAR : AR b ((upd (upd (upd (upd c.1 7 (c.1 6)) 6 0) 8 0) 9 0), gm_up c.2.1 2 f, c.2.2) g := hr
  constructor
  · rw [e', hR]
    have hIV : IV lim sz 0 0 0 b ((upd (upd (upd (upd (upd (upd σ.1 27 0) 28 0) 29 0) 32 0) 10 0) 19 0), gm_up σ.2 30 f') ((upd (upd (upd (upd c.1 7 (c.1 6)) 6 0) 8 0) 9 0), gm_up c.2.1 2 f, c.2.2) g := by
      refine ⟨⟨⟨hC0, f2 1 (by omega) (by omega), h3, rfl, ht⟩, rfl, rfl, rfl, ⟨rfl, by omega⟩, ⟨rfl, by omega⟩, Or.inl ⟨f2 2 (by omega) (by omega), f2' 2 (by omega) (by omega)⟩, Or.inl ⟨f2 3 (by omega) (by omega), f2' 3 (by omega) (by omega)⟩, Or.inl ⟨f2 4 (by omega) (by omega), f2' 4 (by omega) (by omega)⟩, h49⟩, fun n hn => ?_, hAR, hlim, fun k hk => absurd hk (by omega), fun _ k hk => absurd hk (by omega)⟩
      show bt 0 n = true ↔ _
      rw [bt_0]
      exact ⟨fun e => (by cases e), fun ⟨i, i1, _⟩ => by omega⟩
    have hY : rY σ ((upd (upd (upd (upd (upd (upd σ.1 27 0) 28 0) 29 0) 32 0) 10 0) 19 0), gm_up σ.2 30 f') := by
      refine ⟨fun j a1 a2 a3 a4 a5 _ _ a8 _ _ => ?_, fun j _ a _ _ _ => if_neg a, rfl⟩
      show upd (upd (upd (upd (upd (upd σ.1 27 0) 28 0) 29 0) 32 0) 10 0) 19 0 j = _
      rw [upd_ne a5, upd_ne a8, upd_ne a4, upd_ne a3, upd_ne a2, upd_ne a1]
    have hst : sp_Rd_readText_35 2601 (Int32.ofNat 0) ((upd (upd (upd (upd c.1 7 (c.1 6)) 6 0) 8 0) 9 0), gm_up c.2.1 2 f, c.2.2) = cNx 2600 (Int32.ofNat 0) ((upd (upd (upd (upd c.1 7 (c.1 6)) 6 0) 8 0) 9 0), gm_up c.2.1 2 f, c.2.2) := by
      show sp_Rd_readText_35 (2600 + 1) (Int32.ofNat 0) _ = _
      rw [sp_Rd_readText_35, if_neg (by decide), if_pos (by decide)]
      rfl
    rw [hst]
    exact TJ_W hY (next_j (by decide) (by decide) (by decide) hIV (fun at1 pt1 σ1 c1 g1 h' => text_j 5 1 2601 2600 at1 pt1 σ1 c1 g1 (by omega) (by omega) (by omega) (by omega) h'))
  · obtain ⟨n, c', at', g', r1, r2, r3, r4, r5, r6, r7, r8⟩ := text_c (sz := sz) (b := b) 6 0 2601 0 _ g hC0 hAR (by omega) (by omega)
    have := r3.2.2.2.1
    refine ⟨n, c', g', by rw [hR]; exact r1, r2, r6, ?_, r5.2.1, r5.2.2.1, r5.2.2.2.2.2.1, r5.2.2.2.2.2.2, ?_, ?_⟩
    · rw [r5.1 6 (by omega)]
      rfl
    · have e : c'.2.2.2.2.1 ≤ c.2.2.2.2.1 + 12 * (at' - 0) + 3 * 6 := r7
      omega
    · have e : c'.2.2.2.2.2 ≤ c.2.2.2.2.2 + 72 * (at' - 0) + 41 * 6 := r8
      omega
end H14
