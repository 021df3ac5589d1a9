section J21
variable {sz at_ dp lc tr pr pc sc pt n : Nat} {σ : gm_S} {c : ck_S} {f : gm_S → Option (Int32 × gm_S)} {g : ck_S → Option (Option Nat × ck_S)}
def rOwn (f : gm_S → Option (Int32 × gm_S)) (x : Int32) (σ0 : gm_S) : Option (Int32 × gm_S) := (match sp_Md_readInner f ((upd σ0.1 29 ((σ0.1 29) + 1)), (gm_up σ0.2 31 (upd (σ0.2 31) x.toNatClampNeg 3))) with
  | none => none
  | some y6 => (if y6.1 = 0 then some (0, y6.2) else (match sp_Md_with 8 x (y6.2.1 34) (-1) ((upd y6.2.1 29 ((y6.2.1 29) - 1)), (gm_up y6.2.2 31 (upd (y6.2.2 31) x.toNatClampNeg ((σ0.2 31) x.toNatClampNeg)))) with
    | none => none
    | some y8 => some (1, ((upd y8.2.1 34 y8.1), y8.2.2)))))
def cOwn (g : ck_S → Option (Option Nat × ck_S)) (s told0 : Int32) (c : ck_S) : Option (Option Nat × ck_S) := (match sp_Rd_readBody g ((upd (upd c.1 12 ((c.1 12) ||| s)) 15 ((c.1 15) + 1)), c.2.1, c.2.2.1, c.2.2.2.1, c.2.2.2.2.1, c.2.2.2.2.2) with
  | none => none
  | some y3 => (match sp_Node_init y3.2.2.2.2.2.1 8 s y3.1 ((upd (upd y3.2.1 15 ((y3.2.1 15) - 1)) 12 told0), y3.2.2.1, y3.2.2.2.1, (eset y3.2.2.2.2.1 y3.2.2.2.2.2.1 (.inr (2, gx_def gx_kd2))), (y3.2.2.2.2.2.1 + 1), (y3.2.2.2.2.2.2 + 6)) with
    | none => none
    | some y4 => some ((some y3.2.2.2.2.2.1), y4)))
theorem Gc_L {l : Nat} (hl : l < 26) (h : QR sz at_ dp lc tr pr pc sc pt σ c) (hne : c.2.1 3 l ≠ 0) : ∀ l', l' < 26 → Gc (upd (upd c.1 12 (c.1 12 ||| c.2.1 3 l)) 15 (Int32.ofNat (lc + 1)), c.2) l' = zext (Gc c) l l' := by
  intro l' hl'
  have hCS := h.1.2.2.2.2.2.2.2.2.2.2.2.2.2.2
  show (!decide (c.2.1 3 l' &&& (c.1 12 ||| c.2.1 3 l) = 0)) = zext (Gc c) l l'
  unfold zext
  by_cases e : l' = l
  · rw [if_pos e, e]
    have := and_self_or (y := c.1 12) hne
    simp [this]
  · rw [if_neg e]
    unfold Gc
    have := and_or (y := c.1 12) (bits_dj hCS hl' hl e)
    simp [this]
theorem own_j {l : Nat} (hl : l < 26) (h : QR sz at_ dp lc tr pr pc sc pt σ c) (hd : dp ≤ 12) (htr : tr ≤ dp) (hlc : lc ≤ dp) (hf : JF n f g) (hg : BF (n + 1) g) (hn : 12 - dp ≤ n) (hpt : pt ≤ 5 * at_ + 9) (hne : c.2.1 3 l ≠ 0) (hq : c.2.1 3 l &&& c.1 12 = 0 ∨ c.2.1 2 2 ≠ 501) : ∃ r σ' a c', rOwn f (Int32.ofNat l) σ = some (r, σ') ∧ cOwn g (c.2.1 3 l) (c.1 12) c = some (some a, c') ∧ rW σ σ' ∧ ((r = 1 ∧ UG 10 (7 * (12 - dp) + 1) sz at_ dp lc tr pr pc sc pt σ c (σ'.1 34) σ' a c') ∨ (r = 0 ∧ FB σ' c')) := by
  have h15 : c.1 15 = Int32.ofNat lc := h.1.2.2.2.2.2.2.2.2.2.1
  have h29 : σ.1 29 = Int32.ofNat lc := h.2.2.2.2.2.2.1
  have hL := QR_L hl (by omega) h hne hq
  obtain ⟨r, σ2, a, c2, j1, j2, j3, j4⟩ := body_j hL hd (by omega) (by omega) hf hg hn hpt
  have hcu := body_2 hL.1 hd hg hn (by omega) (by omega) j2
  have hcu2 := hcu
  obtain ⟨at2, pc2, sc2, x1, x2, x3, x4, x5, x6⟩ := hcu2
  have e15 : c2.1 15 = Int32.ofNat (lc + 1) := x1.1.2.2.2.2.2.2.2.2.2.1
  have hcuL : CU sz at_ dp lc tr pc sc c a (upd (upd c2.1 15 (Int32.ofNat lc)) 12 (c.1 12), c2.2) := ⟨at2, pc2, sc2, CV_L (by omega) h.1 x1, x2, x3, x4, x5, x6⟩
  have hrw : rW σ σ2 := by
    obtain ⟨w1, w2⟩ := j3
    refine ⟨fun j b1 b2 b3 b4 b5 b6 b7 => (w1 j b1 b2 b3 b4 b5 b6 b7).trans (upd_ne b3), fun j b1 b2 b3 b4 b5 b6 => (w2 j b1 b2 b3 b4 b5 b6).trans (if_neg b2)⟩
  unfold rOwn cOwn
  rw [h15, h29, ofN_s, cl_of (by omega)]
  have j2' : sp_Rd_readBody g ((upd (upd c.1 12 (c.1 12 ||| c.2.1 3 l)) 15 (Int32.ofNat (lc + 1))), c.2.1, c.2.2.1, c.2.2.2.1, c.2.2.2.2.1, c.2.2.2.2.2) = some (some a, c2) := j2
  rw [j1, j2']
  simp only
  rw [e15, sb2 (by omega), Nat.add_sub_cancel]
  rcases j4 with ⟨hr, at3, pc3, sc3, pt3, pn, y1, y2, y3, y4, y5, y6, y7, y8⟩ | ⟨hr, hfb⟩
  · subst hr
    have s29 : σ2.1 29 = Int32.ofNat (lc + 1) := y1.2.2.2.2.2.2.1
    rw [if_neg (by decide), s29, sb2 (by omega), Nat.add_sub_cancel]
    have h31 : ∀ l', l' < 26 → σ2.2 31 l' = upd (σ.2 31) l 3 l' := fun l' hl' => y3.2.1 l' hl'
    have hQb := QR_Lb hl (by omega) h h31 y2 y1
    have hrwb : rW σ (upd σ2.1 29 (Int32.ofNat lc), gm_up σ2.2 31 (upd (σ2.2 31) l (σ.2 31 l))) := rW_tr hrw ⟨fun j b1 b2 b3 b4 b5 b6 b7 => upd_ne b3, fun j b1 b2 b3 b4 b5 b6 => if_neg b2⟩
    have hKG : KG 11 (7 * (12 - dp)) tr (zext (Gc c) l) sz at_ dp lc tr pr pc sc pt σ c (σ2.1 34) (upd σ2.1 29 (Int32.ofNat lc), gm_up σ2.2 31 (upd (σ2.2 31) l (σ.2 31 l))) a (upd (upd c2.1 15 (Int32.ofNat lc)) 12 (c.1 12), c2.2) := by
      refine ⟨at3, pc3, sc3, pt3, pn, hQb, CV_L (by omega) h.1 y2, ?_, y4, y5, y6, y7, fun hno => ?_⟩
      · obtain ⟨w1, w2, w3, w4, w5, w6⟩ := y3
        refine ⟨hrwb, fun l' hl' => ?_, w3, w4, fun j q a b d => ?_, w6⟩
        · show upd (σ2.2 31) l (σ.2 31 l) l' = _
          by_cases e : l' = l
          · rw [e, upd_eq]
          · rw [upd_ne e, h31 l' hl', upd_ne e]
        · show gm_up σ2.2 31 _ j q = _
          unfold gm_up
          rw [if_neg (by omega), w5 j q a b d]
          show gm_up σ.2 31 _ j q = _
          unfold gm_up
          rw [if_neg (by omega)]
      · have k8 := nR_G _ _ _ _ _ (Gc_L hl h hne) (y8 hno)
        refine mv_nR (hi := pt3) (m' := c2.2.2.2.2.1) (fun j q a b _ => ?_) (fun _ _ => rfl) (fun _ _ _ => rfl) (Nat.le_refl _) (Nat.le_refl _) k8
        show gm_up σ2.2 31 _ j q = _
        unfold gm_up
        rw [if_neg (by omega)]
    obtain ⟨σ3, c3, p1, p2, p3, p4⟩ := end_post (kd := 8) (x := Int32.ofNat l) (vl := c.2.1 3 l) (kk := 11) (hh := 7 * (12 - dp)) (t1 := tr) (Γ1 := zext (Gc c) l) (r := 1) (σ1 := (upd σ2.1 29 (Int32.ofNat lc), gm_up σ2.2 31 (upd (σ2.2 31) l (σ.2 31 l)))) h.1 (by decide) (by omega) (by omega) (by omega) hcuL hrwb (Or.inl ⟨rfl, hKG⟩) (by rw [if_pos rfl, cl_of (by omega)]) (by rw [if_neg (by decide)]) (fun _ _ e => absurd e (by decide)) (fun _ _ e => absurd e (by decide)) (fun _ hno _ => by
      have hno0 := noF_b hcuL.choose_spec.choose_spec.choose_spec.1.2.2.2.2.1 hno
      have hz : c.2.1 3 l &&& c.1 12 = 0 := hq.elim id (fun e => absurd hno0.1 e)
      have hk : c2.2.1 3 l = c.2.1 3 l := x1.2.2.2.2.1.2.2.2.2.1 l hl hne
      refine ⟨l, hl, rfl, hk.symm, by show c2.2.1 3 l ≠ 0; rw [hk]; exact hne, ?_⟩
      unfold Gc
      simp [hz])
    rw [w1I_1] at p1
    have p2' : sp_Node_init c2.2.2.2.2.1 8 (c.2.1 3 l) (some a) ((upd (upd c2.1 15 (Int32.ofNat lc)) 12 (c.1 12)), c2.2.1, c2.2.2.1, (eset c2.2.2.2.1 c2.2.2.2.2.1 (.inr (2, gx_def gx_kd2))), (c2.2.2.2.2.1 + 1), (c2.2.2.2.2.2 + 6)) = some c3 := p2
    rw [p2']
    exact ⟨1, σ3, _, c3, p1, rfl, p3, p4⟩
  · subst hr
    rw [if_pos rfl]
    obtain ⟨σ3, c3, p1, p2, p3, p4⟩ := end_post (kd := 8) (x := Int32.ofNat l) (vl := c.2.1 3 l) (kk := 11) (hh := 7 * (12 - dp)) (t1 := tr) (Γ1 := zext (Gc c) l) (r := 0) (σ1 := σ2) (pt := pt) (pr := pr) h.1 (by decide) (by omega) (by omega) (by omega) hcuL hrw (Or.inr ⟨rfl, hfb⟩) (by rw [if_pos rfl, cl_of (by omega)]) (by rw [if_neg (by decide)]) (fun e => absurd e (by decide)) (fun e => absurd e (by decide)) (fun e => absurd e (by decide))
    have p2' : sp_Node_init c2.2.2.2.2.1 8 (c.2.1 3 l) (some a) ((upd (upd c2.1 15 (Int32.ofNat lc)) 12 (c.1 12)), c2.2.1, c2.2.2.1, (eset c2.2.2.2.1 c2.2.2.2.2.1 (.inr (2, gx_def gx_kd2))), (c2.2.2.2.2.1 + 1), (c2.2.2.2.2.2 + 6)) = some c3 := p2
    rw [p2']
    have p1' : some ((0 : Int32), σ2) = some (0, σ3) := p1
    exact ⟨0, σ3, _, c3, p1', rfl, p3, p4⟩
theorem cNN {w v : Nat} : cN 2 w (cN 4 v c) = cN 4 v (cN 2 w c) := by
  unfold cN
  simp only
  congr 2
  funext j q
  unfold gm_up upd
  by_cases h1 : j = 2
  · simp only [h1, if_true]
    by_cases h2 : q = 2 <;> by_cases h4 : q = 4 <;> simp [h2, h4]
  · simp [h1]
theorem cGN {l k w : Nat} : cG l sc (cN k w c) = cN k w (cG l sc c) := by
  unfold cN cG
  simp only
  congr 2
  funext j q
  unfold gm_up upd
  by_cases h1 : j = 2 <;> by_cases h2 : j = 3 <;> simp [h1, h2]
end J21
