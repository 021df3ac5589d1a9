section J17
variable {sz at_ dp lc tr pr pc sc pt n : Nat} {σ : gm_S} {c : ck_S} {f : gm_S → Option (Int32 × gm_S)} {g : ck_S → Option (Option Nat × ck_S)}
def rTrap (f : gm_S → Option (Int32 × gm_S)) (σ : gm_S) : Option (Int32 × gm_S) := sp_Md_readTrap f σ
def cTrap (g : ck_S → Option (Option Nat × ck_S)) (c : ck_S) : Option (Option Nat × ck_S) := (match sp_Rd_takeBetween 65 90 (c.1, c.2.1, c.2.2.1, (eset c.2.2.2.1 c.2.2.2.2.1 (.inr (2, gx_def gx_kd2))), (c.2.2.2.2.1 + 1), (c.2.2.2.2.2 + 6)) with
  | none => none
  | some y8 => (match sp_Rd_readTrapped g y8.1 y8.2 with
    | none => none
    | some y9 => (match sp_Node_init c.2.2.2.2.1 6 0 y9.1 y9.2 with
      | none => none
      | some y10 => some ((some c.2.2.2.2.1), y10))))
theorem trap_j (h : QR sz at_ dp lc tr pr pc sc pt σ c) (hd : dp ≤ 12) (htr : tr ≤ dp) (hlc : lc ≤ dp) (hf : JF n f g) (hg : BF (n + 1) g) (hn : 12 - dp ≤ n) (hpt : pt ≤ 5 * at_ + 4) : JO 4 (7 * (12 - dp) + 5) sz at_ dp lc tr pr pc sc pt σ c (sp_Md_readTrap f σ) (cTrap g c) := by
  have hs : sz ≤ 500 := h.1.2.1
  have ha : at_ ≤ sz := h.1.2.2.2.1
  have h27 : σ.1 27 = Int32.ofNat at_ := h.2.2.2.1
  have h32 : σ.1 32 = Int32.ofNat tr := h.2.2.2.2.2.2.2.1
  have hb : c.2.1 2 1 = 501 := h.2.1
  have hM : CW sz at_ dp lc tr pc sc (cM c nD) := (CV_M h.1).1
  have htb := tb_eq (v1 := 65) (v2 := 90) hM
  have htb' : sp_Rd_takeBetween 65 90 (c.1, c.2.1, c.2.2.1, (eset c.2.2.2.1 c.2.2.2.2.1 (.inr (2, gx_def gx_kd2))), (c.2.2.2.2.1 + 1), (c.2.2.2.2.2 + 6)) = _ := htb
  have hpkM : pk sz at_ (cM c nD) = pk sz at_ c := rfl
  rw [hpkM] at htb'
  unfold sp_Md_readTrap cTrap
  rw [see_eq h]
  simp only
  rw [htb']
  have e0 : (cM c nD).2.2.2.2.1 = c.2.2.2.2.1 + 1 := rfl
  rcases up_in h with ⟨u1, u2⟩ | ⟨hl, ch, d1, d2, d3, d4, d5⟩
  · rw [if_pos u1, if_pos u2]
    simp only
    have hr := CW_R hM
    obtain ⟨b1, c2, q1, q2⟩ := trapped_cx (nm := -1) hr.1 hd hg (by omega) htr hlc
    rw [q1]
    simp only
    obtain ⟨at2, pc2, sc2, x1, x2, x3, x4, x5, x6⟩ := q2
    have e1 : (cR (cM c nD)).2.2 = (cM c nD).2.2 := hR22
    have e1' : (cR (cM c nD)).2.2.2.2.1 = c.2.2.2.2.1 + 1 := by rw [e1]; rfl
    have hcell : c2.2.2.2.1 c.2.2.2.2.1 = some nD := by
      rw [x1.2.2.2.2.2.1.2.1 _ (by rw [e1']; omega), e1]
      exact eset_eq
    obtain ⟨c', i1, i2⟩ := initN (kd := 6) (v := 0) hcell x6 (by omega)
    rw [i1]
    refine ⟨0, σ, _, c', rfl, rfl, rW_rf, Or.inr ⟨rfl, ?_, at_, by omega, h27⟩⟩
    rw [i2, x1.2.2.2.2.1.2.2.2.2.2.2.1 hr.2.1, hr.2.2.1 hb, h27]
  · rw [d3, d4, if_neg d5, if_neg d5, see_eq h]
    simp only
    rw [h32, if_pos (gi_of (by omega : tr < 64) (by decide)), cl_of (by omega), ofN_s, d3]
    have hQ : QR sz (at_ + 1) dp lc tr pr pc sc pt (mP σ) (cM (cP c) nD) := QR_h (QR_P h hl) rfl rfl
    obtain ⟨r, σ2, a, c2, j1, j2, j3, j4, j5⟩ := trapped_j (nm := Int32.ofNat ch) hQ hd htr hlc hf hg hn (by omega)
    have hst : ((upd (upd σ.1 32 (Int32.ofNat (tr + 1))) 27 (σ.1 27 + 1), gm_up σ.2 33 (upd (σ.2 33) tr (Int32.ofNat ch))) : gm_S) = (upd (mP σ).1 32 (Int32.ofNat (tr + 1)), gm_up (mP σ).2 33 (upd ((mP σ).2 33) tr (Int32.ofNat ch))) := by
      unfold mP
      simp only
      have : upd (upd σ.1 32 (Int32.ofNat (tr + 1))) 27 (σ.1 27 + 1) = upd (upd σ.1 27 (σ.1 27 + 1)) 32 (Int32.ofNat (tr + 1)) := by
        funext q
        unfold upd
        by_cases q1 : q = 27 <;> by_cases q2 : q = 32 <;> simp [q1, q2]
      rw [this]
    rw [hst, j1]
    simp only
    have j2' : sp_Rd_readTrapped g (Int32.ofNat ch) (cP (cM c nD)) = some (some a, c2) := j2
    rw [j2']
    simp only
    have hGP : Gc (cP c) = Gc c := rfl
    rcases j5 with ⟨hr, s32, hk⟩ | ⟨hr, hfb⟩
    · subst hr
      rw [if_neg (by decide), s32, sb2 (by omega), Nat.add_sub_cancel]
      have hrw2 : rW (mP σ) (upd σ2.1 32 (Int32.ofNat tr), σ2.2) := rW_tr j3 ⟨fun j b1 b2 b3 b4 b5 b6 b7 => upd_ne b4, fun _ _ _ _ _ _ _ => rfl⟩
      obtain ⟨σ3, c3, p1, p2, p3, p4⟩ := end_pre (σ := mP σ) (c := cP c) (kd := 6) (x := -1) (vl := 0) (kk := 11) (hh := 7 * (12 - dp)) (t1 := tr + 1) (Γ1 := Gc (cP c)) (r := 1) (σ1 := (upd σ2.1 32 (Int32.ofNat tr), σ2.2)) (a1 := a) (c1 := c2) (pt := pt) (pr := pr) (CV_P h.1 hl hb).1 (by decide) (by omega) (by omega) (by omega) j4 hrw2 (Or.inl ⟨rfl, hk⟩) (by rw [if_neg (by decide)]) (by rw [if_pos rfl]) (fun _ _ e => absurd e (by decide)) (fun _ _ e => absurd e (by decide)) (fun _ _ e => absurd e (by decide))
      rw [w1I_1] at p1
      have p2' : sp_Node_init c.2.2.2.2.1 6 0 (some a) c2 = some c3 := p2
      rw [p2']
      refine ⟨1, σ3, _, c3, p1, rfl, rW_tr (rU_P (pr := pr) (pc := pc) (pt := pt) (tr := tr)).1 p3, ?_⟩
      rcases p4 with ⟨p5, p6⟩ | ⟨p5, _⟩
      · exact Or.inl ⟨rfl, UG_V (CV_P h.1 hl hb) rU_P rfl hGP (by omega) p6⟩
      · exact absurd p5 (by decide)
    · subst hr
      rw [if_pos rfl]
      obtain ⟨σ3, c3, p1, p2, p3, p4⟩ := end_pre (σ := mP σ) (c := cP c) (kd := 6) (x := -1) (vl := 0) (kk := 11) (hh := 7 * (12 - dp)) (t1 := tr + 1) (Γ1 := Gc (cP c)) (r := 0) (σ1 := σ2) (a1 := a) (c1 := c2) (pt := pt) (pr := pr) (CV_P h.1 hl hb).1 (by decide) (by omega) (by omega) (by omega) j4 j3 (Or.inr ⟨rfl, hfb⟩) (by rw [if_neg (by decide)]) (by rw [if_pos rfl]) (fun e => absurd e (by decide)) (fun e => absurd e (by decide)) (fun e => absurd e (by decide))
      have p2' : sp_Node_init c.2.2.2.2.1 6 0 (some a) c2 = some c3 := p2
      rw [p2']
      have p1' : some ((0 : Int32), σ2) = some (0, σ3) := p1
      rcases p4 with ⟨p5, _⟩ | ⟨_, p6⟩
      · exact absurd p5 (by decide)
      · exact ⟨0, σ3, _, c3, p1', rfl, rW_tr (rU_P (pr := pr) (pc := pc) (pt := pt) (tr := tr)).1 p3, Or.inr ⟨rfl, p6⟩⟩
theorem rexit_23 (h : QR sz at_ dp lc tr pr pc sc pt σ c) (htr : tr ≤ 13) (hpt : pt < 2600) : ∀ (i m : Nat), i ≤ tr → i < m → (∃ j, j < i ∧ σ.2 33 j = sv sz at_ σ ∧ (∀ j', j < j' → j' < i → σ.2 33 j' ≠ sv sz at_ σ) ∧ sp_Md_readExit_23 m (Int32.ofNat i + (-1)) σ = some (1, (upd (upd (upd σ.1 19 (Int32.ofNat (pt + 1))) 34 (Int32.ofNat pt)) 27 (σ.1 27 + 1), mkA σ.2 pt 7 (-1) (Int32.ofNat (tr + 1 - j))))) ∨ ((∀ j, j < i → σ.2 33 j ≠ sv sz at_ σ) ∧ sp_Md_readExit_23 m (Int32.ofNat i + (-1)) σ = some (1, (upd (upd (upd (mN 2 at_ σ).1 19 (Int32.ofNat (pt + 1))) 34 (Int32.ofNat pt)) 27 (σ.1 27 + 1), mkA (mN 2 at_ σ).2 pt 7 (-1) 2))) := by
  have h19 : σ.1 19 = Int32.ofNat pt := h.2.2.2.2.2.2.2.2.2.2.1
  have h27 : σ.1 27 = Int32.ofNat at_ := h.2.2.2.1
  have h32 : σ.1 32 = Int32.ofNat tr := h.2.2.2.2.2.2.2.1
  have m2 : ∀ z, sp_Md_note 2 (Int32.ofNat at_) z = some (mN 2 at_ z) := fun z => mn_eq (k := 2) (by decide)
  intro i
  induction i with
  | zero =>
    intro m _ hm
    obtain ⟨m, rfl⟩ : ∃ k, m = k + 1 := ⟨m - 1, by omega⟩
    refine Or.inr ⟨fun j hj => absurd hj (by omega), ?_⟩
    show sp_Md_readExit_23 (m + 1) (-1) σ = _
    unfold sp_Md_readExit_23
    rw [if_pos (by decide), if_neg (by decide), h27, m2]
    simp only
    have ho := (mN_o (σ := σ) (k := 2) (w := at_)).1
    rw [mk_eq (σ := mN 2 at_ σ) (n := pt) (kd := 7) (x := -1) (v := 2) (by rw [ho]; exact h19) hpt]
    simp only
    have e27 : upd (mN 2 at_ σ).1 19 (Int32.ofNat (pt + 1)) 27 = Int32.ofNat at_ := by rw [upd_ne (by decide), ho]; exact h27
    rw [e27]
  | succ i ih =>
    intro m hi hm
    obtain ⟨m, rfl⟩ : ∃ k, m = k + 1 := ⟨m - 1, by omega⟩
    have hv : Int32.ofNat (i + 1) + (-1) = Int32.ofNat i := sb1 (by omega)
    rw [hv]
    have hnn : ¬ (Int32.ofNat i < 0) := fun e => by
      have := (lt_N (a := i) (b := 0) (by omega) (by decide)).mp e
      omega
    have hle0 : (0 : Int32) ≤ Int32.ofNat i := (le_N (a := 0) (by decide) (by omega)).mpr (by omega)
    unfold sp_Md_readExit_23
    rw [if_neg hnn, if_pos (gi_of (by omega : i < 64) (by decide)), see_eq h]
    simp only
    rw [cl_of (by omega)]
    by_cases he : σ.2 33 i = sv sz at_ σ
    · rw [if_pos he, if_pos hle0, h32]
      have hk : (1 : Int32) + Int32.ofNat tr - Int32.ofNat i = Int32.ofNat (tr + 1 - i) := by
        rw [show (1 : Int32) = Int32.ofNat 1 from rfl, ofN_add, ofN_sub (by omega)]
        congr 1
        omega
      rw [hk, mk_eq h19 hpt]
      simp only
      refine Or.inl ⟨i, by omega, he, fun j' a b => absurd b (by omega), ?_⟩
      have e27 : upd σ.1 19 (Int32.ofNat (pt + 1)) 27 = σ.1 27 := upd_ne (by decide)
      rw [e27]
    · rw [if_neg he]
      rcases ih m (by omega) (by omega) with ⟨j, j1, j2, j3, j4⟩ | ⟨j1, j2⟩
      · refine Or.inl ⟨j, by omega, j2, fun j' a b => ?_, j4⟩
        by_cases hj : j' = i
        · rw [hj]; exact he
        · exact j3 j' a (by omega)
      · refine Or.inr ⟨fun j hj => ?_, j2⟩
        by_cases hj' : j = i
        · rw [hj']; exact he
        · exact j1 j (by omega)
end J17
