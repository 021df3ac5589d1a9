section Q3
variable {sz at_ dp lc tr pr pc sc pt : Nat} {σ : gm_S} {c : ck_S} {kd sep : Int32} {F : gm_S → Option (Int32 × gm_S)} {g : ck_S → Option (Option Nat × ck_S)}
def KY (q pt pt1 m m1 : Nat) (T : mw_A) (E : ck_E) (y : kd_R) : Prop := y.1.1 = Int32.ofNat y.1.1.toNatClampNeg ∧ y.1.1.toNatClampNeg < 2600 ∧ pt ≤ y.2.1.1 ∧ y.2.1.2 ≤ pt1 ∧ (q < y.2.1.1 ∨ y.2.1.2 ≤ q) ∧ y.2.1.1 ≤ y.1.1.toNatClampNeg ∧ y.1.1.toNatClampNeg < y.2.1.2 ∧ m ≤ y.2.2.1.1 ∧ y.2.2.1.2 ≤ m1 ∧ y.2.2.1.1 ≤ y.1.2 ∧ y.1.2 < y.2.2.1.2 ∧ egI E y.1.2 2 4 = some (T 26 y.1.1.toNatClampNeg) ∧ b16 (T 26 y.1.1.toNatClampNeg)
def LI (kd : Int32) (h0 q : Nat) (sz at_ dp lc tr pr pc sc pt : Nat) (σ : gm_S) (c : ck_S) (at1 pc1 sc1 pt1 : Nat) (σ1 : gm_S) (c1 : ck_S) (pre : List kd_R) (z : kd_R) (a1 i : Nat) : Prop := QR sz at1 dp lc tr pr pc1 sc1 pt1 σ1 c1 ∧ CV sz at_ dp lc tr pc sc c c1 at1 pc1 sc1 ∧ rU pr pc pt tr σ σ1 ∧ (pt ≤ q ∧ q < pt1) ∧ σ1.2 20 q = kd ∧ σ1.2 24 q = -1 ∧ chn σ1.2 c1.2.2.2.1 ((pre ++ [z]).map (fun y => y.1)) (σ1.2 23 q) (some a1) ∧ (∀ y ∈ pre ++ [z], KY q pt pt1 c.2.2.2.2.1 c1.2.2.2.2.1 σ1.2 c1.2.2.2.1 y) ∧ (∀ y ∈ pre, y.2.1.2 ≤ z.2.1.1 ∧ y.2.2.1.2 ≤ z.2.2.1.1) ∧ (∀ p, pt ≤ p → p < pt1 → p = q ∨ ∃ y ∈ pre ++ [z], y.2.1.1 ≤ p ∧ p < y.2.1.2) ∧ pz (pre ++ [z]) pc pc1 ∧ UL σ1 c1 z.1.1.toNatClampNeg z.1.2 z.2.1.1 z.2.1.2 z.2.2.1.1 z.2.2.1.2 ∧ (noF c1 → ∀ y ∈ pre ++ [z], nR σ1.2 c1.2.2.2.1 (c1.2.1 3) h0 (Gc c) tr y) ∧ pre.length = i ∧ (a1 = z.1.2 ↔ i = 0) ∧ pt1 + i ≤ pt + 5 * (at1 - at_) ∧ i + at_ ≤ at1 ∧ ∃ y0 ys, pre ++ [z] = y0 :: ys ∧ y0.2.1.2 ≤ q ∧ ∀ y ∈ ys, q < y.2.1.1
def rEnd (q : Nat) (σ1 : gm_S) : Option (Int32 × gm_S) := (match sp_Md_settle (Int32.ofNat q) σ1 with
  | none => none
  | some y9 => some (1, ((upd y9.1 34 (Int32.ofNat q)), y9.2)))
theorem loop_end {h0 q at1 pc1 sc1 pt1 a1 i : Nat} {σ1 : gm_S} {c1 : ck_S} {pre : List kd_R} {z : kd_R} (hkd : kd = 9 ∨ kd = 10) (htr : tr ≤ 14) (hi : i ≠ 0) (h : LI kd h0 q sz at_ dp lc tr pr pc sc pt σ c at1 pc1 sc1 pt1 σ1 c1 pre z a1 i) (h26 : pt1 ≤ 2600) : ∃ σ' c', rEnd q σ1 = some (1, σ') ∧ gEnd kd a1 z.1.2 c1 = some (some c1.2.2.2.2.1, c') ∧ UG 1 (h0 + 1) sz at_ dp lc tr pr pc sc pt σ c (σ'.1 34) σ' c1.2.2.2.2.1 c' := by
  obtain ⟨l1, l2, l3, ⟨l4, l4'⟩, l5, l6, l7, l8, l9, l10, l11, l12, l13, l14, l15, l16, l17, y0, ys, hks, l18, l19⟩ := h
  have hs : sz ≤ 500 := l1.1.2.1
  have hat1 : at1 ≤ sz := l1.1.2.2.2.1
  have hle := l2.2.2.2.2.2.1.1
  have hlen : (pre ++ [z]).length = i + 1 := by simp [l14]
  rw [hks] at l7 l8 l10 l11 l13 hlen
  have hlen' : ys.length = i := by simpa using hlen
  have hchn := l7
  obtain ⟨q1, q2, q3, q4, c', q5, q6⟩ := l7
  have q1' : σ1.2 23 q = y0.1.1 := q1
  have q3' : gi y0.1.1 2600 = true := q3
  have hi500 : i ≤ 500 := by omega
  have hpn : ∀ y ∈ y0 :: ys, y.1.1.toNatClampNeg ≠ q := fun y hy => by
    obtain ⟨_, _, _, _, b5, b6, b7, _⟩ := l8 y hy
    omega
  have hne0 : ∀ p ∈ ys.map (fun y => y.1.1), p ≠ y0.1.1 := fun p hp e => by
    obtain ⟨y, hy, rfl⟩ := List.mem_map.mp hp
    obtain ⟨_, _, _, _, _, _, b7, _⟩ := l8 y0 (by simp)
    obtain ⟨_, _, _, _, _, d6, _⟩ := l8 y (List.mem_cons_of_mem _ hy)
    have := l19 y hy
    have e' : y.1.1 = y0.1.1 := e
    rw [e'] at d6
    omega
  have hchP : chP σ1.2 (ys.map (fun y => y.1.1)) (σ1.2 24 y0.1.1.toNatClampNeg) := by
    have := chn_chP _ _ _ q6
    rw [List.map_map] at this
    exact this
  have hset := set_eq (σ := σ1) (p := q) (k := y0.1.1) (ks := ys.map (fun y => y.1.1)) (by omega) q1' q3' hchP (by simp; omega) hne0
  rw [l5] at hset
  rw [foldT_map] at hset
  have hb0 := (l8 y0 (by simp)).2.2.2.2.2.2.2.2.2.2.2.2
  have hby : ∀ y ∈ ys, b16 (σ1.2 26 y.1.1.toNatClampNeg) := fun y hy => (l8 y (List.mem_cons_of_mem _ hy)).2.2.2.2.2.2.2.2.2.2.2.2
  have hlch : lch c1.2.2.2.1 (lT σ1.2 (y0 :: ys)) (some a1) := chn_lch (y0 :: ys) _ _ (fun y hy => (l8 y hy).2.2.2.2.2.2.2.2.2.2.2.1) hchn
  have hin : ∀ x ∈ lT σ1.2 (y0 :: ys), x.1 < c1.2.2.2.2.1 := fun x hx => by
    obtain ⟨y, hy, rfl⟩ := List.mem_map.mp hx
    obtain ⟨_, _, _, _, _, _, _, _, b9, _, b11, _⟩ := l8 y hy
    simp only
    omega
  have hne : z.1.2 ≠ a1 := fun e => hi (l15.mp e.symm)
  have hlenT : (lT σ1.2 (y0 :: ys)).length < 2601 := by
    unfold lT
    rw [List.length_map, hlen]
    omega
  have hinit := nd_init (E := (cM c1 nD).2.2.2.1) (a := c1.2.2.2.2.1) (σ := cM c1 nD) rfl (kd := kd) (v := 0) (l := lT σ1.2 (y0 :: ys)) (c := some a1) eset_eq (lch_es _ _ (fun x hx => by have := hin x hx; omega) hlch) hlenT (fun x hx => by have := hin x hx; omega)
  have hk1 : ¬ (kd = 1) := by rcases hkd with e | e <;> (rw [e]; decide)
  have hk4 : kd ≠ 4 := by rcases hkd with e | e <;> (rw [e]; decide)
  have hk8 : kd ≠ 8 := by rcases hkd with e | e <;> (rw [e]; decide)
  have hk6 : kd ≠ 6 := by rcases hkd with e | e <;> (rw [e]; decide)
  rw [if_neg hk1, lW_wO, cA_oE (Or.inl (Or.inr hkd)) hb0 hby] at hinit
  generalize hw : wO σ1.2 ((y0 :: ys).map (fun y => y.1.1)) = W at hinit
  have hw' : wO σ1.2 (y0.1.1 :: ys.map (fun y => y.1.1)) = W := hw
  rw [hw'] at hset
  generalize ho : oE kd (ys.foldl (fun c y => oS kd c (σ1.2 26 y.1.1.toNatClampNeg)) (σ1.2 26 y0.1.1.toNatClampNeg)) = O at hinit hset
  have hinit' : sp_Node_init c1.2.2.2.2.1 kd 0 (some a1) (c1.1, c1.2.1, c1.2.2.1, (eset c1.2.2.2.1 c1.2.2.2.2.1 (.inr (2, gx_def gx_kd2))), (c1.2.2.2.2.1 + 1), (c1.2.2.2.2.2 + 6)) = some (cE (cM c1 nD) c1.2.2.2.2.1 (nC kd 0 (some a1) W O none)) := hinit
  have hend : gEnd kd a1 z.1.2 c1 = some (some c1.2.2.2.2.1, cE (cM c1 nD) c1.2.2.2.2.1 (nC kd 0 (some a1) W O none)) := by
    unfold gEnd
    rw [if_neg hne, hinit']
  unfold rEnd
  rw [hset]
  refine ⟨_, _, rfl, hend, at1, pc1, sc1, pt1, q, ?_, CV_E (CV_tr l2 (CV_M l2.1)) hle, ?_, by omega, by omega, rfl, ?_, ?_⟩
  · refine QR_h (QR_r l1 (fun j j1 _ => upd_ne j1) (fun j hj => ?_)) rfl rfl
    show stA σ1.2 q W O j = _
    exact st_o (by omega) (by omega)
  · obtain ⟨⟨w1, w1'⟩, w2, w3, w4, w5, w6⟩ := l3
    refine ⟨⟨fun j b1 b2 b3 b4 b5 b6 b7 => (upd_ne b6).trans (w1 j b1 b2 b3 b4 b5 b6 b7), fun j b1 b2 b3 b4 b5 b6 => ?_⟩, fun l hl => ?_, fun i hi => ?_, fun i hi => ?_, fun j p j1 j2 hp => ?_, fun i hi => ?_⟩
    · show stA σ1.2 q W O j = _
      rw [st_o (by omega) (by omega)]
      exact w1' j b1 b2 b3 b4 b5 b6
    · show stA σ1.2 q W O 31 l = _
      rw [st_o (by omega) (by omega)]
      exact w2 l hl
    · show stA σ1.2 q W O 17 i = _
      rw [st_o (by omega) (by omega)]
      exact w3 i hi
    · show stA σ1.2 q W O 18 i = _
      rw [st_o (by omega) (by omega)]
      exact w4 i hi
    · show stA σ1.2 q W O j p = _
      rw [← w5 j p j1 j2 hp]
      by_cases h25 : j = 25
      · rw [h25, st_25, upd_ne (by omega)]
      · by_cases h26' : j = 26
        · rw [h26', st_26, upd_ne (by omega)]
        · rw [st_o h25 h26']
    · show stA σ1.2 q W O 33 i = _
      rw [st_o (by omega) (by omega)]
      exact w6 i hi
  · refine ⟨l4, l4', hle, Nat.lt_succ_self _, Or.inr (Or.inl rfl), ?_, ?_, kd, 0, some a1, ?_⟩
    · show stA σ1.2 q W O 24 q = _
      rw [st_o (by omega) (by omega)]
      exact l6
    · show b16 (stA σ1.2 q W O 26 q)
      rw [st_26, upd_eq, ← ho]
      exact b16_oE (b16_foldT _ _ hb0 hby)
    · show eset _ _ _ _ = some (nC kd 0 (some a1) (stA σ1.2 q W O 25 q) (stA σ1.2 q W O 26 q) none)
      rw [eset_eq, st_25, st_26, upd_eq, upd_eq]
  · intro hno
    have hno1 : noF c1 := hno
    have hk := l13 hno1
    show nR (stA σ1.2 q W O) (cE (cM c1 nD) c1.2.2.2.2.1 (nC kd 0 (some a1) W O none)).2.2.2.1 (c1.2.1 3) (h0 + 1) (Gc c) tr ((Int32.ofNat q, c1.2.2.2.2.1), (pt, pt1), (c.2.2.2.2.1, c1.2.2.2.2.1 + 1), (pc, pc1))
    have hE : ∀ x, x < c1.2.2.2.2.1 → (cE (cM c1 nD) c1.2.2.2.2.1 (nC kd 0 (some a1) W O none)).2.2.2.1 x = c1.2.2.2.1 x := fun x hx => by
      show eset (eset _ _ _) _ _ x = _
      rw [eset_ne (by omega), eset_ne (by omega)]
    have hT : ∀ j p, p ≠ q → stA σ1.2 q W O j p = σ1.2 j p := fun j p hp => by
      by_cases h25 : j = 25
      · rw [h25, st_25, upd_ne hp]
      · by_cases h26' : j = 26
        · rw [h26', st_26, upd_ne hp]
        · rw [st_o h25 h26']
    have h20 : stA σ1.2 q W O 20 q = kd := by rw [st_o (by omega) (by omega)]; exact l5
    have h25 : stA σ1.2 q W O 25 q = W := by rw [st_25, upd_eq]
    have h26' : stA σ1.2 q W O 26 q = O := by rw [st_26, upd_eq]
    have hgN : gN (stA σ1.2 q W O) (Gc c) q = Gc c := by unfold gN; rw [h20, if_neg hk8]
    have htN : ztN (stA σ1.2 q W O) tr q = tr := by unfold ztN; rw [h20, if_neg hk6]
    have hcell : (cE (cM c1 nD) c1.2.2.2.2.1 (nC kd 0 (some a1) W O none)).2.2.2.1 c1.2.2.2.2.1 = some (nC kd 0 (some a1) (stA σ1.2 q W O 25 q) (stA σ1.2 q W O 26 q) none) := by rw [h25, h26']; exact eset_eq
    refine nR_mk (y := y0) (ys := ys) (kd := kd) (vl := 0) l4 l4' h26 hle (Nat.lt_succ_self _) htr h20 hcell ?_ (by rw [hlen]; omega) ?_ ?_ (fun x hx => ?_) l10 l11 ?_
    · have e23 : stA σ1.2 q W O 23 q = σ1.2 23 q := by rw [st_o (by omega) (by omega)]
      rw [e23]
      refine chn_ag _ _ _ (fun w hw => ?_) hchn
      obtain ⟨y, hy, rfl⟩ := List.mem_map.mp hw
      obtain ⟨_, _, _, _, _, _, _, _, b9, _, b11, _⟩ := l8 y hy
      exact ⟨hT 24 _ (hpn y hy), hT 25 _ (hpn y hy), hE _ (by omega)⟩
    · rw [h25]
      refine hw.symm.trans (wO_eq _ (fun p hp => ?_)).symm
      obtain ⟨y, hy, rfl⟩ := List.mem_map.mp hp
      exact hT 25 _ (hpn y hy)
    · rw [h26', hT 26 _ (hpn y0 (by simp)), foldT_eq ys _ (fun y hy => hT 26 _ (hpn y (List.mem_cons_of_mem _ hy)))]
      exact ho.symm
    · obtain ⟨b1, b2, b3, b4, b5, b6, b7, b8, b9, b10, b11, b12, b13⟩ := l8 x hx
      refine ⟨b3, b4, b5, ⟨b8, by omega⟩, Or.inr (Or.inl b9), ?_⟩
      rw [hgN, htN]
      refine nR_ext _ _ _ _ (hk x hx) ⟨fun j p _ _ p1 p2 _ => hT j p (by omega), fun p p1 p2 _ => hE p (by omega), fun j _ => eg_E (hE _ (by omega)), fun _ => hE _ (by omega)⟩ (fun _ _ _ => rfl)
    · unfold kc
      rw [h20]
      rcases hkd with e | e
      · exact Or.inr (Or.inr (Or.inr (Or.inr (Or.inr (Or.inr (Or.inr (Or.inr (Or.inr (Or.inl ⟨e, by rw [hlen]; omega⟩)))))))))
      · exact Or.inr (Or.inr (Or.inr (Or.inr (Or.inr (Or.inr (Or.inr (Or.inr (Or.inr (Or.inr ⟨e, by rw [hlen]; omega⟩)))))))))
end Q3
