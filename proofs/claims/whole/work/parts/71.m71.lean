section J24
variable {sz at_ dp lc tr pr pc sc pt n : Nat} {σ : gm_S} {c : ck_S} {f : gm_S → Option (Int32 × gm_S)} {g : ck_S → Option (Option Nat × ck_S)}
theorem CW_at {at2 pc2 sc2 : Nat} (h : CW sz at_ dp lc tr pc sc c) (k : CW sz at2 dp lc tr pc2 sc2 c) : at2 = at_ ∧ pc2 = pc := by
  have hs : sz ≤ 500 := h.2.1
  have ha : at_ ≤ sz := h.2.2.2.1
  have ha2 : at2 ≤ sz := k.2.2.2.1
  have h8 : c.1 8 = Int32.ofNat at_ := h.2.2.1
  have k8 : c.1 8 = Int32.ofNat at2 := k.2.2.1
  have h16 : c.1 16 = Int32.ofNat pc := h.2.2.2.2.2.2.2.2.2.2.2.1
  have k16 : c.1 16 = Int32.ofNat pc2 := k.2.2.2.2.2.2.2.2.2.2.2.1
  have hp : pc ≤ at_ := h.2.2.2.2.2.2.2.2.2.2.2.2.1
  have kp : pc2 ≤ at2 := k.2.2.2.2.2.2.2.2.2.2.2.2.1
  rw [h8] at k8
  rw [h16] at k16
  have e1 := (eq_N (by omega) (by omega)).mp k8
  have e2 := (eq_N (by omega) (by omega)).mp k16
  exact ⟨by omega, by omega⟩
theorem abort_j {start : Nat} {v2 : Int32} (hst : start ≤ 500) (h : QR sz at_ dp lc tr pr pc sc pt σ c) (hp : pc + 1 ≤ at_) (hd : dp ≤ 12) (htr : tr ≤ dp) (hlc : lc ≤ dp) (hf : JF n f g) (hg : BF (n + 1) g) (hn : 12 - dp ≤ n) (hpt : pt ≤ 5 * at_ + 4) : JO 4 (7 * (12 - dp) + 5) sz at_ dp lc tr pr pc sc pt σ c (sp_Md_readAbort f (Int32.ofNat start) v2 σ) (sp_Rd_readAbort g (Int32.ofNat start) v2 c) := by
  have hs : sz ≤ 500 := h.1.2.1
  have ha : at_ ≤ sz := h.1.2.2.2.1
  have blind : ∀ (σ' : gm_S) (s : Int32) (at2 pc2 sc2 b : Nat) (c2 : ck_S), rW σ σ' → CW sz at2 dp lc tr pc2 sc2 c2 → pc2 + 1 ≤ at2 → NN c2 b → b < c2.2.2.2.2.1 → FB σ' c2 → JO 4 (7 * (12 - dp) + 5) sz at_ dp lc tr pr pc sc pt σ c (some (0, σ')) (if v2 = 0 then cTail s (Int32.ofNat start) (some b) c2 else (match sp_Node_init c2.2.2.2.2.1 5 s (some b) (c2.1, c2.2.1, c2.2.2.1, (eset c2.2.2.2.1 c2.2.2.2.2.1 (.inr (2, gx_def gx_kd2))), (c2.2.2.2.2.1 + 1), (c2.2.2.2.2.2 + 6)) with
      | none => none
      | some y11 => cTail s (Int32.ofNat start) (some c2.2.2.2.2.1) y11)) := by
    intro σ' s at2 pc2 sc2 b c2 hrw hw hpp hnn hlt hfb
    by_cases hv : v2 = 0
    · rw [if_pos hv]
      obtain ⟨a, c', t1, t2⟩ := tail_t (s := s) hw hpp hst hnn hlt
      rw [t1]
      exact ⟨0, σ', a, c', rfl, rfl, hrw, Or.inr ⟨rfl, FB_k hfb t2⟩⟩
    · rw [if_neg hv]
      have hnn' : NN (cM c2 nD) b := by
        obtain ⟨k, v, f, w, o, e⟩ := hnn
        refine ⟨k, v, f, w, o, ?_⟩
        show eset _ _ _ b = _
        rw [eset_ne (by omega), e]
      obtain ⟨k, v, f', w, o, e⟩ := hnn'
      have i1 := init1 (c := cM c2 nD) (a := c2.2.2.2.2.1) (kd := 5) (v := s) eset_eq e (by omega)
      have i1' : sp_Node_init c2.2.2.2.2.1 5 s (some b) (c2.1, c2.2.1, c2.2.2.1, (eset c2.2.2.2.1 c2.2.2.2.2.1 (.inr (2, gx_def gx_kd2))), (c2.2.2.2.2.1 + 1), (c2.2.2.2.2.2 + 6)) = _ := i1
      rw [i1']
      simp only
      obtain ⟨a, c', t1, t2⟩ := tail_t (s := s) (start := start) (ag := c2.2.2.2.2.1) (cg := cE (cM c2 nD) c2.2.2.2.2.1 (nC 5 s (some b) (if (5 : Int32) = 1 then s else 0 ||| w) (cA 5 s [(b, w, o)]) none)) hw hpp hst ⟨_, _, _, _, _, eset_eq⟩ (Nat.lt_succ_self _)
      rw [t1]
      exact ⟨0, σ', a, c', rfl, rfl, hrw, Or.inr ⟨rfl, FB_k hfb t2⟩⟩
  unfold sp_Md_readAbort sp_Rd_readAbort
  rcases named_j false h with ⟨s, c1, σ1, e1, e2, e3, e4, e5⟩ | ⟨l, c1, σ1, l1, l2, e1, e2, e3, e4, e5, e6, e7, e8, e9⟩
  · have e1' : sp_Rd_readToldSignal c = some (s, c1) := e1
    have e2' : sp_Md_isNamed 0 σ = some (0, σ1) := e2
    rw [e1', e2']
    simp only
    rw [if_pos trivial]
    obtain ⟨hfb, at1, q2, _⟩ := named_fb h e1' e3 e4
    obtain ⟨b1, c2, r1, at2, pc2, sc2, x1, x2, x3, x4, x5, x6⟩ := trapped_cx (nm := 0) q2.1 hd hg (by omega) htr hlc
    rw [r1]
    have := q2.2.1
    exact blind σ1 s at2 pc2 sc2 b1 c2 e5 x1.1 (by omega) x6 x5 (CV_fb hfb x1)
  · have e1' : sp_Rd_readToldSignal c = some (c.2.1 3 l, c1) := e1
    have e2' : sp_Md_isNamed 0 σ = some (1, σ1) := e2
    have h32 : σ1.1 32 = Int32.ofNat tr := e5.2.2.2.2.2.2.2.1
    rw [e1', e2']
    simp only
    rw [if_neg (by decide), h32, if_pos (gi_of (by omega : tr < 64) (by decide)), cl_of (by omega), ofN_s]
    obtain ⟨r, σ2, a, c2, j1, j2, j3, j4, j5⟩ := trapped_j (nm := 0) e5 hd htr hlc hf hg hn (by omega)
    rw [j1, j2]
    simp only
    have g12 : c1.1 12 = c.1 12 := e8.2.2.2.2.1.1 12 (by decide) (by decide) (by decide)
    have hGc : Gc c1 = Gc c := Gc_of e4 g12
    have j4' := j4
    obtain ⟨at2, pc2, sc2, x1, x2, x3, x4, x5, x6⟩ := j4'
    rcases j5 with ⟨hr, s32, hk⟩ | ⟨hr, hfb⟩
    · subst hr
      rw [if_neg (by decide), s32, sb2 (by omega), Nat.add_sub_cancel]
      obtain ⟨at3, pc3, sc3, pt3, pn, y1, y2, y3, y4, y5, y6, y7, y8⟩ := hk
      obtain ⟨ea, ep⟩ := CW_at y1.1 x1.1
      subst ea ep
      have hat3 := y2.2.1
      have hat3' : at2 ≤ sz := y1.1.2.2.2.1
      have hH : noF c2 → 7 ≤ 7 * (12 - dp) := fun hno => by
        have hk := y8 hno
        by_cases e : dp = 12
        · rw [e] at hk
          exact absurd hk id
        · omega
      have toJ : ∀ (σ' : gm_S) (c' : ck_S) (b hh pta : Nat) (R : Option (Int32 × gm_S)) (C : Option (Option Nat × ck_S)), R = some (1, σ') → C = some (some b, c') → σ'.1 34 = Int32.ofNat (pta + 9) → QR sz at2 dp lc tr pr (pc2 + 1) sc3 (pta + 10) σ' c' → CV sz (at_ + 1) dp lc tr pc sc c1 c' at2 (pc2 + 1) sc3 → rU pr pc pt tr σ1 σ' → UL σ' c' (pta + 9) b pt (pta + 10) c1.2.2.2.2.1 c'.2.2.2.2.1 → (noF c' → nR σ'.2 c'.2.2.2.1 (c'.2.1 3) hh (Gc c1) tr ((Int32.ofNat (pta + 9), b), (pt, pta + 10), (c1.2.2.2.2.1, c'.2.2.2.2.1), (pc, pc2 + 1))) → hh ≤ 7 * (12 - dp) + 5 → pta ≤ pt3 + 1 → pt3 ≤ pta → JO 4 (7 * (12 - dp) + 5) sz at_ dp lc tr pr pc sc pt σ c R C := by
        intro σ' c' b hh pta R C z1 z2 z3 z4 z5 z6 z7 z8 z9 z10 z11
        refine ⟨1, σ', b, c', z1, z2, rW_tr e6.1 z6.1, Or.inl ⟨rfl, UG_V (kk := 0) e8 e6 e7 hGc z9 ⟨at2, pc2 + 1, sc3, pta + 10, pta + 9, z4, z5, z6, by omega, by omega, z3, z7, z8⟩⟩⟩
      by_cases hv : v2 = 0
      · rw [if_pos hv, if_pos hv]
        obtain ⟨σ3, c3, t1, t2, t3, t4, t5, t6, t7, t8⟩ := tail_j (s := c.2.1 3 l) (x := σ1.1 35) (start := start) (hh := 7 * (12 - dp) + 1) (σ := σ1) (c := c1) y1 y2 y3 y7 (fun hno => nR_mono _ _ _ _ _ (by omega) (y8 hno)) (fun hno => by have := hH hno; omega) (by omega) e5.1 (by omega) hst (by omega) (by omega) (fun hno => sig_k y2.2.2.2.2.1 l1 e4 g12 e3 e9 hno)
        refine toJ σ3 c3 _ (7 * (12 - dp) + 1 + 3) pt3 _ _ ?_ ?_ t3 t4 t5 t6 t7 t8 (by omega) (by omega) (by omega)
        · rw [← t1, ← y6]; rfl
        · exact t2
      · rw [if_neg hv, if_neg hv]
        have hE : ∀ q, q < c2.2.2.2.2.1 → (cM c2 nD).2.2.2.1 q = c2.2.2.2.1 q := fun q hq => eset_ne (by omega)
        have hnx : (cM c2 nD).2.2.2.2.1 = c2.2.2.2.2.1 + 1 := rfl
        have hle := y2.2.2.2.2.2.1.1
        obtain ⟨c4, z1, z2, z3, z4, z5, z6, z7, z8⟩ := wrapG1 (kd := 5) (x := σ1.1 35) (vl := c.2.1 3 l) (hh := 7 * (12 - dp)) (tq := tr + 1) (t1 := tr + 1) (Γ1 := Gc c1) (σ := σ1) (c := c1) (c1 := cM c2 nD) (σ1 := (upd σ2.1 32 (Int32.ofNat tr), σ2.2)) (a := c2.2.2.2.2.1) (pc := pc) (sc := sc) (at_ := at_ + 1) (by decide) (QR_h y1 rfl rfl) y3 (by omega) (UL_x (mv_UL (fun _ _ _ _ _ => rfl) hE y7)) (fun hno => mv_nR (fun _ _ _ _ _ => rfl) hE (fun _ _ _ => rfl) (Nat.le_refl _) (Nat.le_refl _) (y8 hno)) (by omega) eset_eq (CV_tr y2 (CV_M y1.1)) hle (by rw [hnx]; omega) (Nat.le_refl _) (by rw [hnx]; omega) (Or.inr (Nat.le_refl _)) (Or.inr hnx.symm) (by rw [if_neg (by decide)]) (by rw [if_neg (by decide)]) (fun _ e => absurd e (by decide)) (fun hno _ => sig_k (CV_tr y2 (CV_M (z := nD) y1.1)).2.2.2.2.1 l1 e4 g12 e3 e9 hno) (fun _ e => absurd e (by decide))
        generalize hσ3 : ((upd (upd σ2.1 32 (Int32.ofNat tr)) 19 (Int32.ofNat (pt3 + 1)), w1A σ2.2 pt3 5 (σ1.1 35) pn) : gm_S) = σ3 at z7
        obtain ⟨v1, v3, v4, v5⟩ := z8 σ3 (by rw [← hσ3]) (fun j _ _ => by rw [← hσ3])
        have z1' : sp_Node_init c2.2.2.2.2.1 5 (c.2.1 3 l) (some a) (c2.1, c2.2.1, c2.2.2.1, (eset c2.2.2.2.1 c2.2.2.2.2.1 (.inr (2, gx_def gx_kd2))), (c2.2.2.2.2.1 + 1), (c2.2.2.2.2.2 + 6)) = some c4 := z1
        rw [y6, z7, z1']
        simp only
        have hno4 : noF c4 → noF c2 := fun hno => by unfold noF at hno ⊢; rw [z3] at hno; exact hno
        obtain ⟨σ4, c5, t1, t2, t3, t4, t5, t6, t7, t8⟩ := tail_j (s := c.2.1 3 l) (x := σ1.1 35) (start := start) (hh := 7 * (12 - dp) + 1) (σ := σ1) (c := c1) v1 z5 v3 v4 v5 (fun hno => by have := hH (hno4 hno); omega) (by omega) e5.1 (by omega) hst (by omega) (by omega) (fun hno => sig_k z5.2.2.2.2.1 l1 e4 g12 e3 e9 hno)
        refine toJ σ4 c5 _ (7 * (12 - dp) + 1 + 3) (pt3 + 1) _ _ ?_ ?_ t3 t4 t5 t6 t7 t8 (by omega) (by omega) (by omega)
        · rw [← t1]; rfl
        · exact t2
    · subst hr
      rw [if_pos rfl]
      exact blind σ2 (c.2.1 3 l) at2 pc2 sc2 a c2 (rW_tr e6.1 j3) x1.1 (by omega) x6 x5 hfb
end J24
