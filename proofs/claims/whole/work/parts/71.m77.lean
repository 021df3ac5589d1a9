section Q6
variable {sz at_ dp lc tr pr pc sc pt : Nat} {σ : gm_S} {c : ck_S} {kd sep : Int32} {F : gm_S → Option (Int32 × gm_S)} {g : ck_S → Option (Option Nat × ck_S)}
def cRw (kd sep : Int32) (g : ck_S → Option (Option Nat × ck_S)) (c : ck_S) : Option (Option Nat × ck_S) := (match g c with
  | none => none
  | some y1 => gL kd sep g 2601 y1.1 y1.1 0 y1.2)
theorem row_j {h0 x : Nat} (hkd : kd = 9 ∨ kd = 10) (hx : sep = Int32.ofNat x) (hx1 : 33 ≤ x) (hx2 : x ≤ 126) (htr : tr ≤ 14) (hd : dp ≤ 12) (h : QR sz at_ dp lc tr pr pc sc pt σ c) (hpt : pt ≤ 5 * at_ + 4)
    (hF : ∀ at1 pc1 sc1 pt1 σ1 c1, QR sz at1 dp lc tr pr pc1 sc1 pt1 σ1 c1 → pt1 ≤ 5 * at1 + 4 → JUo 1 h0 sz at1 dp lc tr pr pc1 sc1 pt1 σ1 c1 (F σ1) (g c1))
    (hg : ∀ at1 pc1 sc1 c1, CW sz at1 dp lc tr pc1 sc1 c1 → (dp = 13 → c1.2.1 2 1 ≠ 501) → ∃ a c', g c1 = some (some a, c') ∧ CU sz at1 dp lc tr pc1 sc1 c1 a c') : JUo 1 (h0 + 1) sz at_ dp lc tr pr pc sc pt σ c (rRw kd sep F σ) (cRw kd sep g c) := by
  have hs : sz ≤ 500 := h.1.2.1
  obtain ⟨r, σ1, a, c1, j1, j2, j3, j4⟩ := hF _ _ _ _ _ _ h hpt
  obtain ⟨a', c1', k1, k2⟩ := hg _ _ _ _ h.1 (fun e => by omega)
  rw [j2] at k1
  obtain ⟨hab, hcc⟩ := Prod.mk.inj (Option.some.inj k1)
  have hab' := Option.some.inj hab
  rw [← hcc, ← hab'] at k2
  unfold rRw cRw
  rw [j1, j2]
  simp only
  have hend : gEnd kd a a c1 = some (some a, c1) := if_pos rfl
  rcases j4 with ⟨hr, at1, pc1, sc1, pt1, pn, y1, y2, y3, y4, y5, y6, y7, y8⟩ | ⟨hr, hfb⟩
  · rw [hr, if_neg (by decide), see_eq y1]
    simp only
    have hat1 := y2.2.1
    have hat1' : at1 ≤ sz := y1.1.2.2.2.1
    by_cases hsv : sv sz at1 σ1 = sep
    · rw [if_pos hsv]
      obtain ⟨u1, u2, u3, u4, ug, u5, u6, kl, vl, fl, u7⟩ := y7
      have h19 : σ1.1 19 = Int32.ofNat pt1 := y1.2.2.2.2.2.2.2.2.2.2.1
      rw [mk_eq (kd := kd) (x := -1) (v := 0) h19 (by omega)]
      simp only
      rw [if_pos (gi_of (by omega : pt1 < 2600) (by decide)), cl_of (by omega)]
      have e34 : upd σ1.1 19 (Int32.ofNat (pt1 + 1)) 34 = Int32.ofNat pn := by rw [upd_ne (by decide)]; exact y6
      rw [e34]
      have hclp : (Int32.ofNat pn).toNatClampNeg = pn := cl_of (by omega)
      have hA : ∀ j p, p ≠ pt1 → gm_up (mkA σ1.2 pt1 kd (-1) 0) 23 (upd (mkA σ1.2 pt1 kd (-1) 0 23) pt1 (Int32.ofNat pn)) j p = σ1.2 j p := fun j p hp => by
        unfold gm_up
        by_cases hj : j = 23
        · rw [if_pos hj, upd_ne hp, mk_ne hp, hj]
        · rw [if_neg hj, mk_ne hp]
      have hAo : ∀ j, (j < 20 ∨ 26 < j) → gm_up (mkA σ1.2 pt1 kd (-1) 0) 23 (upd (mkA σ1.2 pt1 kd (-1) 0 23) pt1 (Int32.ofNat pn)) j = σ1.2 j := fun j hj => by
        unfold gm_up
        rw [if_neg (by omega), mk_o hj]
      have hA20 : gm_up (mkA σ1.2 pt1 kd (-1) 0) 23 (upd (mkA σ1.2 pt1 kd (-1) 0 23) pt1 (Int32.ofNat pn)) 20 pt1 = kd := (upd_eq : upd (σ1.2 20) pt1 kd pt1 = kd)
      have hA24 : gm_up (mkA σ1.2 pt1 kd (-1) 0) 23 (upd (mkA σ1.2 pt1 kd (-1) 0 23) pt1 (Int32.ofNat pn)) 24 pt1 = -1 := (upd_eq : upd (σ1.2 24) pt1 (-1) pt1 = -1)
      have hA23 : gm_up (mkA σ1.2 pt1 kd (-1) 0) 23 (upd (mkA σ1.2 pt1 kd (-1) 0 23) pt1 (Int32.ofNat pn)) 23 pt1 = Int32.ofNat pn := (upd_eq : upd (mkA σ1.2 pt1 kd (-1) 0 23) pt1 (Int32.ofNat pn) pt1 = _)
      generalize gm_up (mkA σ1.2 pt1 kd (-1) 0) 23 (upd (mkA σ1.2 pt1 kd (-1) 0 23) pt1 (Int32.ofNat pn)) = A at hA hAo hA20 hA24 hA23 ⊢
      have hQ : QR sz at1 dp lc tr pr pc1 sc1 (pt1 + 1) (upd σ1.1 19 (Int32.ofNat (pt1 + 1)), A) c1 := QR_r (QR_w (x := 0) y1 (A' := A) hAo) (fun j j1 _ => (upd_ne j1).symm) (fun _ _ => rfl)
      have hLI : LI kd h0 pt1 sz at_ dp lc tr pr pc sc pt σ c at1 pc1 sc1 (pt1 + 1) (upd σ1.1 19 (Int32.ofNat (pt1 + 1)), A) c1 [] ((Int32.ofNat pn, a), (pt, pt1), (c.2.2.2.2.1, c1.2.2.2.2.1), (pc, pc1)) a 0 := by
        refine ⟨hQ, y2, ?_, ⟨y5, Nat.lt_succ_self _⟩, hA20, hA24, ?_, fun y hy => ?_, fun y hy => (by cases hy), fun p p1 p2 => ?_, ⟨rfl, rfl⟩, ?_, fun hno y hy => ?_, rfl, ⟨fun _ => rfl, fun _ => rfl⟩, by omega, by omega, _, [], rfl, Nat.le_refl _, fun y hy => (by cases hy)⟩
        · exact rU_r (rU_tr y3 (rU_w (σ := σ1) (pr := pr) (pc := pc) (pt := pt) (tr := tr) (x := 0) (pt1 := pt1) (A' := A) hAo (fun j p _ _ hp => hA j p (by omega))) (Nat.le_refl _) (Nat.le_refl _)) (fun j j1 _ => (upd_ne j1).symm) rfl
        · refine ⟨hA23, rfl, gi_of (by omega) (by decide), ?_, none, nC_5 u7, ?_, rfl⟩
          · simp only
            rw [hclp, hA 25 pn (by omega)]
            exact nC_3 u7
          · simp only
            rw [hclp, hA 24 pn (by omega)]
            exact u5
        · have hy' := List.mem_singleton.mp hy
          rw [hy']
          refine ⟨by simp only; rw [hclp], by simp only; rw [hclp]; omega, Nat.le_refl _, by simp only; omega, Or.inr (Nat.le_refl _), by simp only; rw [hclp]; exact u1, by simp only; rw [hclp]; exact u2, Nat.le_refl _, Nat.le_refl _, u3, u4, ?_, ?_⟩
          · simp only
            rw [hclp, hA 26 pn (by omega)]
            exact nC_4 u7
          · simp only
            rw [hclp, hA 26 pn (by omega)]
            exact u6
        · by_cases e : p = pt1
          · exact Or.inl e
          · exact Or.inr ⟨_, List.mem_singleton.mpr rfl, p1, by simp only; omega⟩
        · simp only
          rw [hclp]
          refine ⟨u1, u2, u3, u4, ?_, ?_, ?_, kl, vl, fl, ?_⟩
          · simp only; rw [hA 20 pn (by omega)]; exact ug
          · simp only; rw [hA 24 pn (by omega)]; exact u5
          · simp only; rw [hA 26 pn (by omega)]; exact u6
          · simp only; rw [hA 25 pn (by omega), hA 26 pn (by omega)]; exact u7
        · have hy' := List.mem_singleton.mp hy
          rw [hy']
          exact mv_nR (hi := pt1) (m' := c1.2.2.2.2.1) (fun j p _ _ hp => hA j p (by omega)) (fun _ _ => rfl) (fun _ _ _ => rfl) (Nat.le_refl _) (Nat.le_refl _) (y8 hno)
      have hsv' : sv sz at1 (upd σ1.1 19 (Int32.ofNat (pt1 + 1)), A) = sep := by
        rw [← hsv]
        unfold sv
        simp only
        rw [hAo 4 (by omega)]
      exact loop_all hkd hx hx1 hx2 htr hd h.1 hpt hF hg 500 0 at1 pc1 sc1 (pt1 + 1) 2601 2601 _ c1 [] ((Int32.ofNat pn, a), (pt, pt1), (c.2.2.2.2.1, c1.2.2.2.2.1), (pc, pc1)) a (by omega) (by omega) (by omega) hLI (fun _ => hsv')
    · rw [if_neg hsv]
      have hpk : pk sz at1 c1 ≠ sep := fun e => hsv (by rw [hx] at e ⊢; exact (sv_iff y1 hx1 hx2).mpr e)
      rw [gL_end y1.1 hpk, hend]
      exact ⟨1, σ1, a, c1, rfl, rfl, j3, Or.inl ⟨rfl, at1, pc1, sc1, pt1, pn, y1, y2, y3, y4, y5, y6, y7, fun hno => nR_mono _ _ _ _ _ (by omega) (y8 hno)⟩⟩
  · rw [hr, if_pos rfl]
    obtain ⟨at3, pc3, sc3, x1, _⟩ := k2
    have hpk : pk sz at3 c1 ≠ sep := by
      rw [pk_b (FB_ne hfb), hx]
      intro e
      have h1 : (Int32.ofNat x).toInt = x := Int32.toInt_ofNat_of_lt (by omega)
      rw [← e, show (-1 : Int32).toInt = -1 from rfl] at h1
      omega
    rw [gL_end x1.1 hpk, hend]
    exact ⟨0, σ1, a, c1, rfl, rfl, j3, Or.inr ⟨rfl, hfb⟩⟩
theorem rr_cRw {f : ck_S → Option (Option Nat × ck_S)} : sp_Rd_readRow f c = cRw 9 59 (sp_Rd_readUnit f) c := by
  unfold sp_Rd_readRow cRw
  simp only [rr_gL]
  rfl
theorem rb_cRw {f : ck_S → Option (Option Nat × ck_S)} : sp_Rd_readBeside f c = cRw 10 124 (sp_Rd_readRow f) c := by
  unfold sp_Rd_readBeside cRw
  simp only [rb_gL]
  rfl
theorem BF_mono {n m : Nat} {f : ck_S → Option (Option Nat × ck_S)} (h : n ≤ m) (k : BF m f) : BF n f := fun sz at_ dp lc tr pc sc c h1 h2 h3 => k sz at_ dp lc tr pc sc c h1 h2 (by omega)
theorem rp_JF : ∀ (n m k : Nat), n ≤ m → n < k → JF n (rp m) (rb k) := by
  intro n
  induction n with
  | zero =>
    intro m k _ _ sz at_ dp lc tr pr pc sc pt σ c h hd htr hlc hn
    omega
  | succ n ih =>
    intro m k hm hk sz at_ dp lc tr pr pc sc pt σ c h hd htr hlc hn hpt
    obtain ⟨m, rfl⟩ : ∃ j, m = j + 1 := ⟨m - 1, by omega⟩
    obtain ⟨k, rfl⟩ : ∃ j, k = j + 1 := ⟨k - 1, by omega⟩
    have hJ := ih m k (by omega) (by omega)
    have hB : BF (n + 1) (rb k) := BF_mono (by omega) (rb_BF k)
    have hU : ∀ at1 pc1 sc1 c1, CW sz at1 dp lc tr pc1 sc1 c1 → (dp = 13 → c1.2.1 2 1 ≠ 501) → ∃ a c', sp_Rd_readUnit (rb k) c1 = some (some a, c') ∧ CU sz at1 dp lc tr pc1 sc1 c1 a c' := fun at1 pc1 sc1 c1 h1 hb1 => unit_cu h1 hb1 hB (by omega) htr hlc
    have hR : ∀ at1 pc1 sc1 c1, CW sz at1 dp lc tr pc1 sc1 c1 → (dp = 13 → c1.2.1 2 1 ≠ 501) → ∃ a c', sp_Rd_readRow (rb k) c1 = some (some a, c') ∧ CU sz at1 dp lc tr pc1 sc1 c1 a c' := by
      intro at1 pc1 sc1 c1 h1 hb1
      rw [rr_cRw]
      exact gl_all (kd := 9) (sep := 59) (by decide) hU h1 hb1
    have hUJ : ∀ at1 pc1 sc1 pt1 σ1 c1, QR sz at1 dp lc tr pr pc1 sc1 pt1 σ1 c1 → pt1 ≤ 5 * at1 + 4 → JUo 1 (7 * (12 - dp) + 5) sz at1 dp lc tr pr pc1 sc1 pt1 σ1 c1 (sp_Md_readU (rp m) σ1) (sp_Rd_readUnit (rb k) c1) := fun at1 pc1 sc1 pt1 σ1 c1 h1 hp => unit_j h1 hd htr hlc hJ hB (by omega) hp
    have hRJ : ∀ at1 pc1 sc1 pt1 σ1 c1, QR sz at1 dp lc tr pr pc1 sc1 pt1 σ1 c1 → pt1 ≤ 5 * at1 + 4 → JUo 1 (7 * (12 - dp) + 5 + 1) sz at1 dp lc tr pr pc1 sc1 pt1 σ1 c1 (sp_Md_readQ (rp m) σ1) (sp_Rd_readRow (rb k) c1) := by
      intro at1 pc1 sc1 pt1 σ1 c1 h1 hp
      rw [rq_rRw, rr_cRw]
      exact row_j (x := 59) (Or.inl rfl) rfl (by decide) (by decide) (by omega) hd h1 hp hUJ hU
    show JUo 1 _ sz at_ dp lc tr pr pc sc pt σ c (sp_Md_readP (rp m) σ) (sp_Rd_readBeside (rb k) c)
    rw [rp_rRw, rb_cRw, show 7 * (13 - dp) = 7 * (12 - dp) + 5 + 1 + 1 by omega]
    exact row_j (x := 124) (Or.inr rfl) rfl (by decide) (by decide) (by omega) hd h hpt hRJ hR
end Q6
