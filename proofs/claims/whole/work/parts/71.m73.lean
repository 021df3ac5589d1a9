def rL (sep : Int32) (F : gm_S → Option (Int32 × gm_S)) : Nat → Int32 → Int32 → gm_S → Option (Int32 × gm_S)
  | 0, _, _, _ => none
  | m + 1, v1, v2, σ => (match sp_Md_see σ with
    | none => none
    | some y7 => (if y7.1 = sep then (match F ((upd y7.2.1 27 ((y7.2.1 27) + 1)), y7.2.2) with
      | none => none
      | some y10 => (if y10.1 = 0 then some (0, y10.2) else (if gi v2 2600 = true then rL sep F m v1 (y10.2.1 34) (y10.2.1, (gm_up y10.2.2 24 (upd (y10.2.2 24) v2.toNatClampNeg (y10.2.1 34)))) else none))) else (match sp_Md_settle v1 y7.2 with
      | none => none
      | some y9 => some (1, ((upd y9.1 34 v1), y9.2)))))
def rRw (kd sep : Int32) (F : gm_S → Option (Int32 × gm_S)) (σ : gm_S) : Option (Int32 × gm_S) := (match F σ with
  | none => none
  | some y1 => (if y1.1 = 0 then some (0, y1.2) else (match sp_Md_see y1.2 with
    | none => none
    | some y3 => (if y3.1 = sep then (match sp_Md_makePart kd (-1) 0 y3.2 with
      | none => none
      | some y5 => (if gi y5.1 2600 = true then rL sep F 2601 y5.1 (y5.2.1 34) (y5.2.1, (gm_up y5.2.2 23 (upd (y5.2.2 23) y5.1.toNatClampNeg (y5.2.1 34)))) else none)) else some (1, y3.2)))))
theorem rq_rL {f : gm_S → Option (Int32 × gm_S)} : ∀ m a b σ, sp_Md_readQ_44 f m a b σ = rL 59 (sp_Md_readU f) m a b σ := by
  intro m
  induction m with
  | zero => intro a b σ; rfl
  | succ m ih =>
    intro a b σ
    unfold sp_Md_readQ_44 rL
    simp only [ih]
    rfl
theorem rp_rL {f : gm_S → Option (Int32 × gm_S)} : ∀ m a b σ, sp_Md_readP_44 f m a b σ = rL 124 (sp_Md_readQ f) m a b σ := by
  intro m
  induction m with
  | zero => intro a b σ; rfl
  | succ m ih =>
    intro a b σ
    unfold sp_Md_readP_44 rL
    simp only [ih]
    rfl
theorem rq_rRw {f : gm_S → Option (Int32 × gm_S)} {σ : gm_S} : sp_Md_readQ f σ = rRw 9 59 (sp_Md_readU f) σ := by
  unfold sp_Md_readQ rRw
  simp only [rq_rL]
  rfl
theorem rp_rRw {f : gm_S → Option (Int32 × gm_S)} {σ : gm_S} : sp_Md_readP f σ = rRw 10 124 (sp_Md_readQ f) σ := by
  unfold sp_Md_readP rRw
  simp only [rp_rL]
  rfl
section Q1
variable {T T' : mw_A} {E E' : ck_E}
theorem chn_snoc {zp wp : Int32} {za wa : Nat} {w25 : Int32} (g : gi wp 2600 = true) (h24 : T' 24 zp.toNatClampNeg = wp) (h25 : T' 25 zp.toNatClampNeg = T 25 zp.toNatClampNeg) (hE3 : egI E' za 2 3 = egI E za 2 3) (hE5 : egR E' za 2 5 = some (some wa)) (hw25 : T' 25 wp.toNatClampNeg = w25) (hw3 : egI E' wa 2 3 = some w25) (hw5 : egR E' wa 2 5 = some none) (hw24 : T' 24 wp.toNatClampNeg = -1) : ∀ (l : List (Int32 × Nat)) (k : Int32) (c : Option Nat), (∀ y ∈ l, T' 24 y.1.toNatClampNeg = T 24 y.1.toNatClampNeg ∧ T' 25 y.1.toNatClampNeg = T 25 y.1.toNatClampNeg ∧ E' y.2 = E y.2) → chn T E (l ++ [(zp, za)]) k c → chn T' E' (l ++ [(zp, za)] ++ [(wp, wa)]) k c := by
  intro l
  induction l with
  | nil =>
    intro k c _ h
    obtain ⟨q1, q2, q3, q4, c', q5, q6⟩ := h
    refine ⟨q1, q2, q3, by rw [h25, hE3]; exact q4, some wa, hE5, ?_⟩
    exact ⟨h24, rfl, g, by simp only; rw [hw25]; exact hw3, none, hw5, hw24, rfl⟩
  | cons y ys ih =>
    intro k c hl h
    obtain ⟨q1, q2, q3, q4, c', q5, q6⟩ := h
    obtain ⟨a1, a2, a3⟩ := hl y (by simp)
    refine ⟨q1, q2, q3, by rw [egI_e (eg_E a3), a2]; exact q4, c', by rw [egR_e (eg_E a3)]; exact q5, ?_⟩
    rw [a1]
    exact ih _ _ (fun z hz => hl z (List.mem_cons_of_mem _ hz)) q6
theorem chn_chP : ∀ (l : List (Int32 × Nat)) (k : Int32) (c : Option Nat), chn T E l k c → chP T (l.map (fun y => y.1)) k := by
  intro l
  induction l with
  | nil => intro k c h; exact h.1
  | cons y ys ih =>
    intro k c h
    obtain ⟨q1, q2, q3, q4, c', q5, q6⟩ := h
    exact ⟨q1, q3, ih _ _ q6⟩
theorem pz_snoc {w : kd_R} : ∀ (l : List kd_R) (u v : Nat), pz l u v → w.2.2.2.1 = v → pz (l ++ [w]) u w.2.2.2.2 := by
  intro l
  induction l with
  | nil => intro u v h hw; exact ⟨hw.trans h.symm, rfl⟩
  | cons y ys ih =>
    intro u v h hw
    exact ⟨h.1, ih _ _ h.2 hw⟩
theorem b16_foldT {kd : Int32} : ∀ (l : List kd_R) (z : Int32), b16 z → (∀ y ∈ l, b16 (T 26 y.1.1.toNatClampNeg)) → b16 (l.foldl (fun c y => oS kd c (T 26 y.1.1.toNatClampNeg)) z) := by
  intro l
  induction l with
  | nil => intro z h _; exact h
  | cons y ys ih =>
    intro z h hl
    exact ih _ (b16_oS h (hl y (by simp))) (fun w hw => hl w (List.mem_cons_of_mem _ hw))
theorem foldT_eq {kd : Int32} : ∀ (l : List kd_R) (z : Int32), (∀ y ∈ l, T' 26 y.1.1.toNatClampNeg = T 26 y.1.1.toNatClampNeg) → l.foldl (fun c y => oS kd c (T' 26 y.1.1.toNatClampNeg)) z = l.foldl (fun c y => oS kd c (T 26 y.1.1.toNatClampNeg)) z := by
  intro l
  induction l with
  | nil => intro z _; rfl
  | cons y ys ih =>
    intro z hl
    show List.foldl _ (oS kd z (T' 26 y.1.1.toNatClampNeg)) ys = List.foldl _ (oS kd z (T 26 y.1.1.toNatClampNeg)) ys
    rw [hl y (by simp)]
    exact ih _ (fun w hw => hl w (List.mem_cons_of_mem _ hw))
theorem foldT_map {kd : Int32} : ∀ (l : List kd_R) (z : Int32), (l.map (fun y => y.1.1)).foldl (fun c q => oS kd c (T 26 q.toNatClampNeg)) z = l.foldl (fun c y => oS kd c (T 26 y.1.1.toNatClampNeg)) z := by
  intro l
  induction l with
  | nil => intro z; rfl
  | cons y ys ih => intro z; exact ih _
theorem wO_eq : ∀ (l : List Int32), (∀ p ∈ l, T' 25 p.toNatClampNeg = T 25 p.toNatClampNeg) → wO T' l = wO T l := by
  intro l
  induction l with
  | nil => intro _; rfl
  | cons p ps ih =>
    intro h
    show T' 25 _ ||| wO T' ps = T 25 _ ||| wO T ps
    rw [h p (by simp), ih (fun q hq => h q (List.mem_cons_of_mem _ hq))]
end Q1
section Q2
variable {sz at_ dp lc tr pc sc : Nat} {c c1 : ck_S} {kd sep : Int32} {g : ck_S → Option (Option Nat × ck_S)}
def gEnd (kd : Int32) (a1 al : Nat) (c1 : ck_S) : Option (Option Nat × ck_S) := (if al = a1 then some (some a1, c1) else (match sp_Node_init c1.2.2.2.2.1 kd 0 (some a1) (c1.1, c1.2.1, c1.2.2.1, (eset c1.2.2.2.1 c1.2.2.2.2.1 (.inr (2, gx_def gx_kd2))), (c1.2.2.2.2.1 + 1), (c1.2.2.2.2.2 + 6)) with
  | none => none
  | some y6 => some ((some c1.2.2.2.2.1), y6)))
theorem gL_end {m a1 al at1 : Nat} {i : Int32} (h : CW sz at1 dp lc tr pc sc c1) (hp : pk sz at1 c1 ≠ sep) : gL kd sep g (m + 1) (some a1) (some al) i c1 = gEnd kd a1 al c1 := by
  unfold gL
  by_cases h5 : (500 : Int32) ≤ i
  · rw [if_pos h5]
    rfl
  · rw [if_neg h5, pkk_eq h]
    simp only
    rw [if_neg hp]
    rfl
theorem gL_step {m a1 al at1 i an : Nat} {c2 : ck_S} {kl vl wl ol : Int32} {fl : Option Nat} (h : CW sz at1 dp lc tr pc sc c1) (hp : pk sz at1 c1 = sep) (hi : i < 500) (hg : g (cP c1) = some (some an, c2)) (hn : c2.2.2.2.1 al = some (nC kl vl fl wl ol none)) : gL kd sep g (m + 1) (some a1) (some al) (Int32.ofNat i) c1 = gL kd sep g m (some a1) (some an) (Int32.ofNat (i + 1)) (cE c2 al (nC kl vl fl wl ol (some an))) := by
  conv => lhs; unfold gL
  rw [if_neg (show ¬ ((500 : Int32) ≤ Int32.ofNat i) from fun e => by have := (le_N (a := 500) (by decide) (by omega)).mp e; omega), pkk_eq h]
  simp only
  rw [if_pos hp]
  have g1' : g ((upd c1.1 8 ((c1.1 8) + 1)), c1.2.1, c1.2.2.1, c1.2.2.2.1, c1.2.2.2.2.1, c1.2.2.2.2.2) = some (some an, c2) := hg
  rw [g1']
  simp only
  have hep : ep c2.2.2.2.1 al 2 5 (va_rf (some an)) = some (eset c2.2.2.2.1 al (nC kl vl fl wl ol (some an))) := by
    rw [ep_eq hn (by simp)]
    rfl
  rw [hep]
  simp only
  have he1 : eset c2.2.2.2.1 al (nC kl vl fl wl ol (some an)) al = some (nC kl vl fl wl ol (some an)) := eset_eq
  rw [nC_5 he1, ofN_s]
  rfl
theorem gEnd_t {a1 al : Nat} {l : List (Nat × Int32 × Int32)} (hl : lch c1.2.2.2.1 l (some a1)) (hlen : l.length < 2601) (hin : ∀ x ∈ l, x.1 < c1.2.2.2.2.1) : ∃ a c', gEnd kd a1 al c1 = some (some a, c') ∧ c'.2.1 = c1.2.1 := by
  unfold gEnd
  by_cases he : al = a1
  · rw [if_pos he]
    exact ⟨_, _, rfl, rfl⟩
  · rw [if_neg he]
    have hinit := nd_init (E := (cM c1 nD).2.2.2.1) (a := c1.2.2.2.2.1) (σ := cM c1 nD) rfl (kd := kd) (v := 0) (l := l) (c := some a1) eset_eq (lch_es _ _ (fun x hx => by have := hin x hx; omega) hl) hlen (fun x hx => by have := hin x hx; omega)
    have hinit' : sp_Node_init c1.2.2.2.2.1 kd 0 (some a1) (c1.1, c1.2.1, c1.2.2.1, (eset c1.2.2.2.1 c1.2.2.2.2.1 (.inr (2, gx_def gx_kd2))), (c1.2.2.2.2.1 + 1), (c1.2.2.2.2.2 + 6)) = _ := hinit
    rw [hinit']
    exact ⟨_, _, rfl, rfl⟩
end Q2
