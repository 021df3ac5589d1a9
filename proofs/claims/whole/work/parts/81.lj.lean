section LJ0
variable {a b o n0 : Nat} {A B : Nat → Nat} {σ σ' : gm_S} {c c' : ck_S} {f f' : Nat → Int64} {h h' : gx_H}
/-- the law's world: the house at a, the reference at b with its arrays B, the array of one long at o -/
def lw_q (b o : Nat) (B : Nat → Nat) (q : Nat) : Prop := q = b ∨ (∃ k, gm_ln k ≠ 0 ∧ q = B k) ∨ q = o
def lw_J (a b o : Nat) (B : Nat → Nat) (σ : gm_S) (c : ck_S) (f : Nat → Int64) (h : gx_H) : Prop :=
  ck_At h_K a (fun _ => 0) c h ∧ gm_At b B σ h ∧ h.2.2 o = some (.inl (1, 1, .inr (.inl f))) ∧ (∀ q, lw_q b o B q → q < c.2.2.2.2.1 ∧ c.2.2.2.1 q = none ∧ q ≠ a) ∧ o ≠ b ∧ ∀ k, gm_ln k ≠ 0 → o ≠ B k
theorem lw_no {q : Nat} (h : q ≠ a) : ck_no h_K a (fun _ => 0) q := ⟨h, fun _ hk => absurd rfl hk⟩
theorem gm_At.same (hA : gm_At b B σ h) (hs : ∀ q, (q = b ∨ ∃ k, gm_ln k ≠ 0 ∧ q = B k) → h'.2.2 q = h.2.2 q) : gm_At b B σ h' := ⟨by rw [hs b (Or.inl rfl)]; exact hA.1, fun k hk => by rw [hs (B k) (Or.inr ⟨k, hk, rfl⟩)]; exact hA.2.1 k hk, hA.2.2⟩
theorem lw_J.cls (hJ : lw_J a b o B σ c f h) (hA : ck_At h_K a (fun _ => 0) c' h') (hF : ck_Fr h_K a (fun _ => 0) c h c' h') : lw_J a b o B σ c' f h' := by
  obtain ⟨j1, j2, j3, j4, j5, j6⟩ := hJ
  have key : ∀ q, lw_q b o B q → h'.2.2 q = h.2.2 q ∧ q < c'.2.2.2.2.1 ∧ c'.2.2.2.1 q = none ∧ q ≠ a := fun q hq => by
    obtain ⟨k1, k2, k3⟩ := j4 q hq
    obtain ⟨g1, g2⟩ := hF.2 q k1 k2
    exact ⟨g2 (lw_no k3), Nat.lt_of_lt_of_le k1 hF.1, g1, k3⟩
  refine ⟨hA, j2.same fun q hq => (key q ?_).1, ?_, fun q hq => (key q hq).2, j5, j6⟩
  · rcases hq with e | e
    · exact Or.inl e
    · exact Or.inr (Or.inl e)
  · rw [(key o (Or.inr (Or.inr rfl))).1]
    exact j3
theorem lw_ckmove (hA : ck_At h_K a (fun _ => 0) c h) (e1 : h'.1 = h.1) (e2 : h'.2.1 = h.2.1) (hs : ∀ q, q = a ∨ c.2.2.2.1 q ≠ none → h'.2.2 q = h.2.2 q) : ck_At h_K a (fun _ => 0) c h' := by
  obtain ⟨a1, a2, a3, a4, a5, a6, a7⟩ := hA
  refine ⟨e1.trans a1, e2.trans a2, by rw [hs a (Or.inl rfl)]; exact a3, fun k hk => absurd rfl hk, a5, fun n x hn => ⟨?_, (a6 n x hn).2⟩, a7⟩
  rw [hs n (Or.inr (by rw [hn]; exact fun q => by cases q))]
  exact (a6 n x hn).1
theorem lw_J.ref (hJ : lw_J a b o B σ c f h) (hA : gm_At b B σ' h') (hF : gm_Fr b B h h') : lw_J a b o B σ' c f h' := by
  obtain ⟨j1, j2, j3, j4, j5, j6⟩ := hJ
  refine ⟨lw_ckmove j1 hF.1 hF.2.1 fun q hq => ?_, hA, ?_, j4, j5, j6⟩
  · refine hF.2.2 q (fun e => ?_) (fun k hk e => ?_)
    · obtain ⟨-, k2, k3⟩ := j4 q (Or.inl e)
      rcases hq with hq | hq
      · exact k3 hq
      · exact hq k2
    · obtain ⟨-, k2, k3⟩ := j4 q (Or.inr (Or.inl ⟨k, hk, e⟩))
      rcases hq with hq | hq
      · exact k3 hq
      · exact hq k2
  · rw [hF.2.2 o j5 j6]
    exact j3
theorem gx_set_ne {q y : Nat} {e : gx_C} (hq : q ≠ y) : (gx_set h y e).2.2 q = h.2.2 q := if_neg hq
theorem gx_set_eq {y : Nat} {e : gx_C} : (gx_set h y e).2.2 y = some e := if_pos rfl
theorem lw_J.out (hJ : lw_J a b o B σ c f h) : lw_J a b o B σ c f' (gx_set h o (.inl (1, 1, .inr (.inl f')))) := by
  obtain ⟨j1, j2, j3, j4, j5, j6⟩ := hJ
  refine ⟨lw_ckmove j1 rfl rfl fun q hq => gx_set_ne fun e => ?_, j2.same fun q hq => gx_set_ne fun e => ?_, gx_set_eq, j4, j5, j6⟩
  · obtain ⟨-, k2, k3⟩ := j4 q (Or.inr (Or.inr e))
    rcases hq with hq | hq
    · exact k3 hq
    · exact hq k2
  · rcases hq with hq | ⟨k, hk, hq⟩
    · exact j5 (e.symm.trans hq)
    · exact j6 k hk (e.symm.trans hq)
def lw_up (c : ck_S) (x y : Nat) : ck_S := (c.1, c.2.1, c.2.2.1, c.2.2.2.1, c.2.2.2.2.1 + x, c.2.2.2.2.2 + y)
theorem lw_J.bump (hJ : lw_J a b o B σ c f h) : lw_J a b o B σ (lw_up c 1 6) f (h.1 + 1, h.2.1 + 6, h.2.2) := by
  obtain ⟨⟨a1, a2, a3, a4, a5, a6, a7⟩, j2, j3, j4, j5, j6⟩ := hJ
  refine ⟨⟨by rw [a1]; rfl, by rw [a2]; rfl, a3, a4, a5, a6, fun n hn => a7 n (by have : c.2.2.2.2.1 + 1 ≤ n := hn; omega)⟩, j2, j3, fun q hq => ?_, j5, j6⟩
  obtain ⟨k1, k2, k3⟩ := j4 q hq
  exact ⟨by show q < c.2.2.2.2.1 + 1; omega, k2, k3⟩
theorem REL_up {x y : Nat} (hR : REL n0 σ c) : REL n0 σ (lw_up c x y) := by
  obtain ⟨len, np, nI, r, rs, T, Ts, g, pg, ig, k9, k10, x1, x2, x3, x4, x5, x6, x7, x8, x9⟩ := hR
  refine ⟨len, np, nI, r, rs, T, Ts, g, pg, ig, k9, k10, ?_, x2, x3, x4, x5, x6, ?_, ?_, x9⟩
  · obtain ⟨r1, r2, r3, r4, r5, r6⟩ := x1
    exact ⟨r1, r2, r3, r4, r5, by show n0 + 17 ≤ c.2.2.2.2.1 + x; omega⟩
  · exact RP_fr (h := c) (σ := σ) (fun _ _ => rfl) (fun _ _ => rfl) rfl eB_rf (by show c.2.2.2.2.1 ≤ c.2.2.2.2.1 + x; omega) x7
  · obtain ⟨i1, i2, i3, i4, i5⟩ := x8
    refine ⟨i1, i2, i3, fun i hi => ?_, i5⟩
    obtain ⟨I, k, P, y1, y2, y3, y4⟩ := i4 i hi
    exact ⟨I, k, P, y1, y2, by show I < c.2.2.2.2.1 + x; omega, y4⟩
/-- what a call may make -/
def lw_B (σ : gm_S) (c : ck_S) (σ' : gm_S) (c' : ck_S) : Prop := c'.2.2.2.2.1 + 12 * LN σ' ≤ c.2.2.2.2.1 + 12 * LN σ + 96 ∧ c'.2.2.2.2.2 + 72 * LN σ' ≤ c.2.2.2.2.2 + 72 * LN σ + 576
theorem lw_Bof {cc cs cl : Nat} (h1 : c'.2.2.2.2.1 ≤ c.2.2.2.2.1 + cc) (h2 : c'.2.2.2.2.2 ≤ c.2.2.2.2.2 + cs) (h3 : LN σ' ≤ LN σ + cl) (h4 : cc + 12 * cl ≤ 96) (h5 : cs + 72 * cl ≤ 576) : lw_B σ c σ' c' := ⟨by omega, by omega⟩
theorem lw_Bm (h0 : LN σ' = 0) (h : MC (LN σ) c c') : lw_B σ c σ' c' ∧ lw_B σ c σ' (lw_up c' 1 6) := by
  obtain ⟨h1, h2, -⟩ := h
  refine ⟨⟨by omega, by omega⟩, ⟨?_, ?_⟩⟩
  · show c'.2.2.2.2.1 + 1 + 12 * LN σ' ≤ _
    omega
  · show c'.2.2.2.2.2 + 6 + 72 * LN σ' ≤ _
    omega
end LJ0
section LJ1
variable {l : Launch} {F : gx_F} {d : Nat} {pc : Nat} {L : List (Option Value)} {st : List Value} {P : gx_Z → Prop} {a b o n0 : Nat} {B : Nat → Nat} {σ σ' : gm_S} {c c' : ck_S} {f : Nat → Int64} {h : gx_H} {M' : gx_M}
theorem lw_ivH {i : gx_I} {idx : Nat} {As rest : List Value} {x : Int32} (ha : gx_at m_Law_law.2 pc = some i) (hi : i.1 = .invokevirtual idx) (hy : i.2.2.2.2.2.2.2 = M'.1) (hn : As.length = M'.1.2.2.2.2) (hs : st = As.reverse ++ .ref a :: rest) (hcn : M'.1.1.cls = gx_c0.1) (hw : (rest.map fun v => v.category).sum ≤ 8) (hJ : lw_J a b o B σ c f h)
    (hm : ck_Has l F d M' h_K a (fun _ => 0) (.ref a :: As) c (fun w s' => w = some (.int x) ∧ s' = c')) (kk : ∀ h', lw_J a b o B σ c' f h' → gx_Go l F (d + 1) m_Law_law i.2.2.2.2.1 L (.int x :: rest) h' P) : gx_Go l F (d + 1) m_Law_law pc L st h P := by
  refine gx_iv (r := gx_c0) k_Law_law ha hi hy hn hs hJ.1.2.2.1 rfl hcn hw (hm h hJ.1) ?_
  rintro v h' - ⟨s', ⟨rfl, rfl⟩, p2, p3⟩
  exact kk h' (hJ.cls p2 p3)
theorem lw_ivM {i : gx_I} {idx : Nat} {As rest : List Value} {x : Int32} (ha : gx_at m_Law_law.2 pc = some i) (hi : i.1 = .invokevirtual idx) (hy : i.2.2.2.2.2.2.2 = M'.1) (hn : As.length = M'.1.2.2.2.2) (hs : st = As.reverse ++ .ref b :: rest) (hcn : M'.1.1.cls = gx_c7.1) (hw : (rest.map fun v => v.category).sum ≤ 8) (hJ : lw_J a b o B σ c f h)
    (hm : gm_Has l F d M' b B As σ (fun w s' => w = some (.int x) ∧ s' = σ')) (kk : ∀ h', lw_J a b o B σ' c f h' → gx_Go l F (d + 1) m_Law_law i.2.2.2.2.1 L (.int x :: rest) h' P) : gx_Go l F (d + 1) m_Law_law pc L st h P := by
  refine gx_iv (r := gx_c7) k_Law_law ha hi hy hn hs hJ.2.1.1 rfl hcn hw (hm h hJ.2.1) ?_
  rintro v h' - ⟨s', ⟨rfl, rfl⟩, p2, p3⟩
  exact kk h' (hJ.ref p2 p3)
end LJ1
