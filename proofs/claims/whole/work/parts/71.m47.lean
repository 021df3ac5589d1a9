def gL (kd sep : Int32) (g : ck_S → Option (Option Nat × ck_S)) : Nat → Option Nat → Option Nat → Int32 → ck_S → Option (Option Nat × ck_S)
  | 0, _, _, _, _ => none
  | m + 1, v1, v2, v3, σ => (if (500 : Int32) ≤ v3 then (match v2 with
  | none => none
  | some b3 => (match v1 with
  | none => none
  | some b4 => (if b3 = b4 then some ((some b4), σ) else (match sp_Node_init  σ.2.2.2.2.1 kd 0 (some b4) (σ.1, σ.2.1, σ.2.2.1, (eset σ.2.2.2.1 σ.2.2.2.2.1 (.inr (2, gx_def gx_kd2))), (σ.2.2.2.2.1 + 1), (σ.2.2.2.2.2 + 6)) with
  | none => none
  | some y6 => some ((some σ.2.2.2.2.1), y6))))) else (match sp_Rd_peek   σ with
  | none => none
  | some y7 => (if y7.1 = sep then (match g  ((upd y7.2.1 8 ((y7.2.1 8) + 1)), y7.2.2.1, y7.2.2.2.1, y7.2.2.2.2.1, y7.2.2.2.2.2.1, y7.2.2.2.2.2.2) with
  | none => none
  | some y13 => (match v2 with
  | none => none
  | some b14 => (match ep y13.2.2.2.2.1 b14 2 5 (va_rf y13.1) with
  | none => none
  | some y15 => (match egR y15 b14 2 5 with
  | none => none
  | some y16 => gL kd sep g   m v1 y16 (v3 + 1) (y13.2.1, y13.2.2.1, y13.2.2.2.1, y15, y13.2.2.2.2.2.1, y13.2.2.2.2.2.2))))) else (match v2 with
  | none => none
  | some b9 => (match v1 with
  | none => none
  | some b10 => (if b9 = b10 then some ((some b10), y7.2) else (match sp_Node_init  y7.2.2.2.2.2.1 kd 0 (some b10) (y7.2.1, y7.2.2.1, y7.2.2.2.1, (eset y7.2.2.2.2.1 y7.2.2.2.2.2.1 (.inr (2, gx_def gx_kd2))), (y7.2.2.2.2.2.1 + 1), (y7.2.2.2.2.2.2 + 6)) with
  | none => none
  | some y12 => some ((some y7.2.2.2.2.2.1), y12))))))))
theorem rr_gL {f : ck_S → Option (Option Nat × ck_S)} : ∀ m a b i c, sp_Rd_readRow_9 f m a b i c = gL 9 59 (sp_Rd_readUnit f) m a b i c := by
  intro m
  induction m with
  | zero => intro a b i c; rfl
  | succ m ih =>
    intro a b i c
    unfold sp_Rd_readRow_9 gL
    simp only [ih]
    rfl
theorem rb_gL {f : ck_S → Option (Option Nat × ck_S)} : ∀ m a b i c, sp_Rd_readBeside_9 f m a b i c = gL 10 124 (sp_Rd_readRow f) m a b i c := by
  intro m
  induction m with
  | zero => intro a b i c; rfl
  | succ m ih =>
    intro a b i c
    unfold sp_Rd_readBeside_9 gL
    simp only [ih]
    rfl
section L1
variable {E : ck_E} {al an : Nat} {kl vl wl ol ka va wa oa : Int32} {fl' fa : Option Nat}
theorem lch_snoc (h1 : E al = some (nC kl vl fl' wl ol none)) (h2 : E an = some (nC ka va fa wa oa none)) (hne : an ≠ al) : ∀ (pre : List (Nat × Int32 × Int32)) (c : Option Nat), (∀ x ∈ pre, x.1 ≠ al) → lch E (pre ++ [(al, wl, ol)]) c → lch (eset E al (nC kl vl fl' wl ol (some an))) (pre ++ [(al, wl, ol)] ++ [(an, wa, oa)]) c := by
  intro pre
  induction pre with
  | nil =>
    intro c _ h
    obtain ⟨q1, _⟩ := h
    have e1 : eset E al (nC kl vl fl' wl ol (some an)) al = some (nC kl vl fl' wl ol (some an)) := eset_eq
    have e2 : eset E al (nC kl vl fl' wl ol (some an)) an = some (nC ka va fa wa oa none) := by rw [eset_ne hne, h2]
    exact ⟨q1, nC_3 e1, nC_4 e1, some an, nC_5 e1, rfl, nC_3 e2, nC_4 e2, none, nC_5 e2, rfl⟩
  | cons x xs ih =>
    intro c hx h
    obtain ⟨q1, q2, q3, c', q4, q5⟩ := h
    have hxe : eset E al (nC kl vl fl' wl ol (some an)) x.1 = E x.1 := eset_ne (hx x (by simp))
    exact ⟨q1, by rw [egI_e (eg_E hxe)]; exact q2, by rw [egI_e (eg_E hxe)]; exact q3, c', by rw [egR_e (eg_E hxe)]; exact q4, ih c' (fun y hy => hx y (List.mem_cons_of_mem _ hy)) q5⟩
theorem lch_ag {E' : ck_E} : ∀ (l : List (Nat × Int32 × Int32)) (c : Option Nat), (∀ x ∈ l, E' x.1 = E x.1) → lch E l c → lch E' l c := by
  intro l
  induction l with
  | nil => intro c _ h; exact h
  | cons x xs ih =>
    intro c hx h
    obtain ⟨q1, q2, q3, c', q4, q5⟩ := h
    have hxe := hx x (by simp)
    exact ⟨q1, by rw [egI_e (eg_E hxe)]; exact q2, by rw [egI_e (eg_E hxe)]; exact q3, c', by rw [egR_e (eg_E hxe)]; exact q4, ih c' (fun y hy => hx y (List.mem_cons_of_mem _ hy)) q5⟩
end L1
section C5
variable {sz at_ dp lc tr pc sc : Nat} {c : ck_S} {n : Nat} {g : ck_S → Option (Option Nat × ck_S)} {kd sep : Int32}
theorem gl_cu (hsep : sep ≠ -1) (hg : ∀ at1 pc1 sc1 c1, CW sz at1 dp lc tr pc1 sc1 c1 → (dp = 13 → c1.2.1 2 1 ≠ 501) → ∃ a c', g c1 = some (some a, c') ∧ CU sz at1 dp lc tr pc1 sc1 c1 a c') : ∀ (d i at1 pc1 sc1 m : Nat) (c1 : ck_S) (pre : List (Nat × Int32 × Int32)) (al : Nat) (wl ol : Int32) (a1 : Nat), sz ≤ at1 + d → d < m → CV sz at_ dp lc tr pc sc c c1 at1 pc1 sc1 → (dp = 13 → c1.2.1 2 1 ≠ 501) → i + at_ ≤ at1 → pc1 + at_ ≤ pc + at1 → c1.2.2.2.2.1 + 11 * i ≤ c.2.2.2.2.1 + 12 * (at1 - at_) + 1 → pre.length = i → (∀ x ∈ pre, c.2.2.2.2.1 ≤ x.1 ∧ x.1 < al) → c.2.2.2.2.1 ≤ al → al < c1.2.2.2.2.1 → (∃ kl vl fl', c1.2.2.2.1 al = some (nC kl vl fl' wl ol none)) → lch c1.2.2.2.1 (pre ++ [(al, wl, ol)]) (some a1) → c.2.2.2.2.1 ≤ a1 → (a1 = al ↔ i = 0) →
    ∃ a c', gL kd sep g m (some a1) (some al) (Int32.ofNat i) c1 = some (some a, c') ∧ CU sz at_ dp lc tr pc sc c a c' := by
  intro d
  induction d with
  | zero =>
    intro i at1 pc1 sc1 m c1 pre al wl ol a1 hsz hm hcv hb hi hpc hnx hl hpre ha hal hnode hch ha1 h0
    obtain ⟨m, rfl⟩ : ∃ j, m = j + 1 := ⟨m - 1, by omega⟩
    have hs5 : sz ≤ 500 := hcv.1.2.1
    have hat1 : at1 ≤ sz := hcv.1.2.2.2.1
    have hpk : pk sz at1 c1 = -1 := by
      rcases pk_r hcv.1 with e | ⟨_, e, _⟩
      · exact e
      · omega
    have hle := hcv.2.2.2.2.2.1.1
    have done : ∃ a c', (if al = a1 then some (some a1, c1) else (match sp_Node_init c1.2.2.2.2.1 kd 0 (some a1) (c1.1, c1.2.1, c1.2.2.1, (eset c1.2.2.2.1 c1.2.2.2.2.1 (.inr (2, gx_def gx_kd2))), (c1.2.2.2.2.1 + 1), (c1.2.2.2.2.2 + 6)) with
        | none => none
        | some y6 => some ((some c1.2.2.2.2.1), y6))) = some (some a, c') ∧ CU sz at_ dp lc tr pc sc c a c' := by
      by_cases he : al = a1
      · rw [if_pos he]
        obtain ⟨kl, vl, fl', hn⟩ := hnode
        have : i = 0 := h0.mp he.symm
        exact ⟨_, _, rfl, at1, pc1, sc1, hcv, hpc, by omega, by omega, by omega, kl, vl, fl', wl, ol, by rw [← he]; exact hn⟩
      · rw [if_neg he]
        have hi0 : i ≠ 0 := fun e => he (h0.mpr e).symm
        have hin : ∀ x ∈ pre ++ [(al, wl, ol)], x.1 < c1.2.2.2.2.1 := by
          intro x hx
          rcases List.mem_append.mp hx with e | e
          · have := hpre x e; omega
          · rw [List.mem_singleton.mp e]; exact hal
        have hinit := nd_init (E := (cM c1 nD).2.2.2.1) (a := c1.2.2.2.2.1) (σ := cM c1 nD) rfl (kd := kd) (v := 0) (l := pre ++ [(al, wl, ol)]) (c := some a1) eset_eq (lch_es _ _ (fun x hx => by have := hin x hx; omega) hch) (by simp; omega) (fun x hx => by have := hin x hx; omega)
        have hinit' : sp_Node_init c1.2.2.2.2.1 kd 0 (some a1) (c1.1, c1.2.1, c1.2.2.1, (eset c1.2.2.2.1 c1.2.2.2.2.1 (.inr (2, gx_def gx_kd2))), (c1.2.2.2.2.1 + 1), (c1.2.2.2.2.2 + 6)) = _ := hinit
        rw [hinit']
        refine ⟨_, _, rfl, at1, pc1, sc1, CV_E (c := cM c1 nD) (CV_tr hcv (CV_M hcv.1)) hle, hpc, ?_, hle, ?_, _, _, _, _, _, eset_eq⟩
        · show c1.2.2.2.2.1 + 1 ≤ _
          omega
        · show c1.2.2.2.2.1 < c1.2.2.2.2.1 + 1
          omega
    unfold gL
    by_cases h5 : (500 : Int32) ≤ Int32.ofNat i
    · rw [if_pos h5]
      exact done
    · rw [if_neg h5, pkk_eq hcv.1]
      simp only
      rw [hpk, if_neg (fun e => hsep e.symm)]
      exact done
  | succ d ih =>
    intro i at1 pc1 sc1 m c1 pre al wl ol a1 hsz hm hcv hb hi hpc hnx hl hpre ha hal hnode hch ha1 h0
    obtain ⟨m, rfl⟩ : ∃ j, m = j + 1 := ⟨m - 1, by omega⟩
    have hs5 : sz ≤ 500 := hcv.1.2.1
    have hat1 : at1 ≤ sz := hcv.1.2.2.2.1
    have hle := hcv.2.2.2.2.2.1.1
    have done : ∃ a c', (if al = a1 then some (some a1, c1) else (match sp_Node_init c1.2.2.2.2.1 kd 0 (some a1) (c1.1, c1.2.1, c1.2.2.1, (eset c1.2.2.2.1 c1.2.2.2.2.1 (.inr (2, gx_def gx_kd2))), (c1.2.2.2.2.1 + 1), (c1.2.2.2.2.2 + 6)) with
        | none => none
        | some y6 => some ((some c1.2.2.2.2.1), y6))) = some (some a, c') ∧ CU sz at_ dp lc tr pc sc c a c' := by
      by_cases he : al = a1
      · rw [if_pos he]
        obtain ⟨kl, vl, fl', hn⟩ := hnode
        have : i = 0 := h0.mp he.symm
        exact ⟨_, _, rfl, at1, pc1, sc1, hcv, hpc, by omega, by omega, by omega, kl, vl, fl', wl, ol, by rw [← he]; exact hn⟩
      · rw [if_neg he]
        have hi0 : i ≠ 0 := fun e => he (h0.mpr e).symm
        have hin : ∀ x ∈ pre ++ [(al, wl, ol)], x.1 < c1.2.2.2.2.1 := by
          intro x hx
          rcases List.mem_append.mp hx with e | e
          · have := hpre x e; omega
          · rw [List.mem_singleton.mp e]; exact hal
        have hinit := nd_init (E := (cM c1 nD).2.2.2.1) (a := c1.2.2.2.2.1) (σ := cM c1 nD) rfl (kd := kd) (v := 0) (l := pre ++ [(al, wl, ol)]) (c := some a1) eset_eq (lch_es _ _ (fun x hx => by have := hin x hx; omega) hch) (by simp; omega) (fun x hx => by have := hin x hx; omega)
        have hinit' : sp_Node_init c1.2.2.2.2.1 kd 0 (some a1) (c1.1, c1.2.1, c1.2.2.1, (eset c1.2.2.2.1 c1.2.2.2.2.1 (.inr (2, gx_def gx_kd2))), (c1.2.2.2.2.1 + 1), (c1.2.2.2.2.2 + 6)) = _ := hinit
        rw [hinit']
        refine ⟨_, _, rfl, at1, pc1, sc1, CV_E (c := cM c1 nD) (CV_tr hcv (CV_M hcv.1)) hle, hpc, ?_, hle, ?_, _, _, _, _, _, eset_eq⟩
        · show c1.2.2.2.2.1 + 1 ≤ _
          omega
        · show c1.2.2.2.2.1 < c1.2.2.2.2.1 + 1
          omega
    unfold gL
    by_cases h5 : (500 : Int32) ≤ Int32.ofNat i
    · rw [if_pos h5]
      exact done
    · rw [if_neg h5, pkk_eq hcv.1]
      simp only
      by_cases hp : pk sz at1 c1 = sep
      · rw [if_pos hp]
        rcases pk_r hcv.1 with e | ⟨hbl, hlt, _⟩
        · exact absurd (hp.symm.trans e) hsep
        · have hP := CV_P hcv.1 hlt hbl
          obtain ⟨an, c2, g1, at2, pc2, sc2, g2, g3, g4, g5, g6, ka, va, fa, wa, oa, g7⟩ := hg _ _ _ _ hP.1 hb
          have g1' : g ((upd c1.1 8 ((c1.1 8) + 1)), c1.2.1, c1.2.2.1, c1.2.2.2.1, c1.2.2.2.2.1, c1.2.2.2.2.2) = some (some an, c2) := g1
          rw [g1']
          simp only
          have hPn : (cP c1).2.2.2.2.1 = c1.2.2.2.2.1 := rfl
          rw [hPn] at g4 g5
          have hkeep : ∀ q, q < c1.2.2.2.2.1 → c2.2.2.2.1 q = c1.2.2.2.1 q := fun q hq => g2.2.2.2.2.2.1.2.1 q (by rw [hPn]; exact hq)
          obtain ⟨kl, vl, fl', hn⟩ := hnode
          have hn2 : c2.2.2.2.1 al = some (nC kl vl fl' wl ol none) := by rw [hkeep al hal, hn]
          have hep : ep c2.2.2.2.1 al 2 5 (va_rf (some an)) = some (eset c2.2.2.2.1 al (nC kl vl fl' wl ol (some an))) := by
            rw [ep_eq hn2 (by simp)]
            rfl
          rw [hep]
          simp only
          have he1 : eset c2.2.2.2.1 al (nC kl vl fl' wl ol (some an)) al = some (nC kl vl fl' wl ol (some an)) := eset_eq
          rw [nC_5 he1]
          simp only
          have hch2 : lch c2.2.2.2.1 (pre ++ [(al, wl, ol)]) (some a1) := lch_ag _ _ (fun x hx => hkeep _ (by
            rcases List.mem_append.mp hx with e | e
            · have := hpre x e; omega
            · rw [List.mem_singleton.mp e]; exact hal)) hch
          have hch3 := lch_snoc hn2 g7 (by omega) pre (some a1) (fun x hx => by have := hpre x hx; omega) hch2
          have hat2 := g2.2.1
          have hsz2 : at2 ≤ sz := g2.1.2.2.2.1
          have hcv2 : CV sz at_ dp lc tr pc sc c (cE c2 al (nC kl vl fl' wl ol (some an))) at2 pc2 sc2 := CV_E (CV_tr hcv (CV_tr hP g2)) ha
          have hb2 : dp = 13 → (cE c2 al (nC kl vl fl' wl ol (some an))).2.1 2 1 ≠ 501 := fun e => absurd hbl (hb e)
          obtain ⟨a, c', r1, r2⟩ := ih (i + 1) at2 pc2 sc2 m (cE c2 al (nC kl vl fl' wl ol (some an))) (pre ++ [(al, wl, ol)]) an wa oa a1 (by omega) (by omega) hcv2 hb2 (by omega) (by omega) (by show c2.2.2.2.2.1 + _ ≤ _; omega) (by simp; omega) (fun x hx => by
                rcases List.mem_append.mp hx with e | e
                · have := hpre x e; omega
                · rw [List.mem_singleton.mp e]; exact ⟨ha, by omega⟩) (by omega) g6 ⟨ka, va, fa, by show eset _ _ _ an = _; rw [eset_ne (by omega), g7]⟩ hch3 ha1 ⟨fun e => by
                  exfalso
                  have : a1 = al ∨ ∃ x ∈ pre, x.1 = a1 := by
                    cases pre with
                    | nil => exact Or.inl (Option.some.inj hch.1)
                    | cons x xs => exact Or.inr ⟨x, by simp, (Option.some.inj hch.1).symm⟩
                  rcases this with e' | ⟨x, hx, e'⟩
                  · omega
                  · have := hpre x hx; omega, fun e => by omega⟩
          rw [ofN_s]
          exact ⟨a, c', r1, r2⟩
      · rw [if_neg hp]
        exact done
theorem gl_all (hsep : sep ≠ -1) (hg : ∀ at1 pc1 sc1 c1, CW sz at1 dp lc tr pc1 sc1 c1 → (dp = 13 → c1.2.1 2 1 ≠ 501) → ∃ a c', g c1 = some (some a, c') ∧ CU sz at1 dp lc tr pc1 sc1 c1 a c') (h : CW sz at_ dp lc tr pc sc c) (hb : dp = 13 → c.2.1 2 1 ≠ 501) : ∃ a c', (match g c with
      | none => none
      | some y1 => gL kd sep g 2601 y1.1 y1.1 0 y1.2) = some (some a, c') ∧ CU sz at_ dp lc tr pc sc c a c' := by
  obtain ⟨a1, c1, g1, at1, pc1, sc1, g2, g3, g4, g5, g6, ka, va, fa, wa, oa, g7⟩ := hg _ _ _ _ h hb
  rw [g1]
  simp only
  have hs5 : sz ≤ 500 := h.2.1
  have hb1 : dp = 13 → c1.2.1 2 1 ≠ 501 := fun e => by
    rw [g2.2.2.2.2.1.2.2.2.2.2.2.1 (hb e)]
    exact hb e
  exact gl_cu hsep hg 500 0 at1 pc1 sc1 2601 c1 [] a1 wa oa a1 (by omega) (by omega) g2 hb1 (by have := g2.2.1; omega) g3 (by omega) rfl (fun x hx => by cases hx) g5 g6 ⟨ka, va, fa, g7⟩ ⟨rfl, nC_3 g7, nC_4 g7, none, nC_5 g7, rfl⟩ g5 ⟨fun _ => rfl, fun _ => rfl⟩
end C5
theorem rb_BF : ∀ n, BF n (rb n) := by
  intro n
  induction n with
  | zero =>
    intro sz at_ dp lc tr pc sc c h hb hn
    have := h.2.2.2.2.2.2.1
    omega
  | succ n ih =>
    intro sz at_ dp lc tr pc sc c h hb hn htr hlc
    have hU : ∀ at1 pc1 sc1 c1, CW sz at1 dp lc tr pc1 sc1 c1 → (dp = 13 → c1.2.1 2 1 ≠ 501) → ∃ a c', sp_Rd_readUnit (rb n) c1 = some (some a, c') ∧ CU sz at1 dp lc tr pc1 sc1 c1 a c' := fun at1 pc1 sc1 c1 h1 hb1 => unit_cu h1 hb1 ih (by omega) htr hlc
    have hR : ∀ at1 pc1 sc1 c1, CW sz at1 dp lc tr pc1 sc1 c1 → (dp = 13 → c1.2.1 2 1 ≠ 501) → ∃ a c', sp_Rd_readRow (rb n) c1 = some (some a, c') ∧ CU sz at1 dp lc tr pc1 sc1 c1 a c' := by
      intro at1 pc1 sc1 c1 h1 hb1
      have := gl_all (kd := 9) (sep := 59) (by decide) hU h1 hb1
      unfold sp_Rd_readRow
      simp only [rr_gL]
      exact this
    have := gl_all (kd := 10) (sep := 124) (by decide) hR h hb
    show ∃ a c', sp_Rd_readBeside (rb n) c = _ ∧ _
    unfold sp_Rd_readBeside
    simp only [rb_gL]
    exact this
