theorem zn_up {f : Nat → Int32} {l : Nat} {x : Int32} (h0 : f l = 0) (hx : x ≠ 0) : ∀ n, (l < n → ((List.range n).filter (fun i => decide (upd f l x i = 0))).length + 1 = ((List.range n).filter (fun i => decide (f i = 0))).length) ∧ (n ≤ l → ((List.range n).filter (fun i => decide (upd f l x i = 0))).length = ((List.range n).filter (fun i => decide (f i = 0))).length) := by
  intro n
  induction n with
  | zero => exact ⟨fun h => by omega, fun _ => rfl⟩
  | succ n ih =>
    rw [List.range_succ, List.filter_append, List.filter_append, List.length_append, List.length_append]
    refine ⟨fun h => ?_, fun h => ?_⟩
    · by_cases hn : l = n
      · subst hn
        rw [ih.2 (Nat.le_refl _)]
        have e1 : List.filter (fun i => decide (upd f l x i = 0)) [l] = [] := by
          rw [List.filter_cons_of_neg (by simp only [upd_eq]; simp [hx])]
          rfl
        have e2 : List.filter (fun i => decide (f i = 0)) [l] = [l] := by
          rw [List.filter_cons_of_pos (by simp [h0])]
          rfl
        rw [e1, e2]
        rfl
      · have := ih.1 (by omega)
        have e1 : List.filter (fun i => decide (upd f l x i = 0)) [n] = List.filter (fun i => decide (f i = 0)) [n] := by
          apply List.filter_congr
          intro i hi
          rw [List.mem_singleton.mp hi, upd_ne (fun e => hn e.symm)]
        rw [e1]
        omega
    · rw [ih.2 (by omega)]
      have e1 : List.filter (fun i => decide (upd f l x i = 0)) [n] = List.filter (fun i => decide (f i = 0)) [n] := by
        apply List.filter_congr
        intro i hi
        rw [List.mem_singleton.mp hi, upd_ne (by omega)]
      rw [e1]
theorem zc_up {f : Nat → Int32} {l : Nat} {x : Int32} (hl : l < 26) (h0 : f l = 0) (hx : x ≠ 0) : zc (upd f l x) + 1 = zc f := (zn_up h0 hx 26).1 hl
section B4
variable {sz at_ dp lc tr pc sc : Nat} {c : ck_S}
theorem p2_nz {k : Nat} (hk : k < 32) : (1 : Int32) <<< (Int32.ofNat k &&& 31) ≠ 0 := fun e => by
  have : bt ((1 : Int32) <<< (Int32.ofNat k &&& 31)) k = true := by rw [bt_p2 hk]; simp
  rw [e, bt_0] at this
  cases this
def cG (l sc : Nat) (c : ck_S) : ck_S := (upd c.1 10 (Int32.ofNat (sc + 1)), gm_up c.2.1 3 (upd (c.2.1 3) l ((1 : Int32) <<< (Int32.ofNat sc &&& 31))), c.2.2)
theorem CW_G {l : Nat} (hl : l < 26) (h : CW sz at_ dp lc tr pc sc c) (h0 : c.2.1 3 l = 0) : CV sz at_ dp lc tr pc sc c (cG l sc c) at_ pc (sc + 1) ∧ sc < 26 := by
  obtain ⟨h1, h2, h3, h4, h5, h6, h7, h8, h9, h10, h11, h12, h13, h14, h15⟩ := h
  obtain ⟨s1, s2, s3, s4, ix, s5, s6, s7⟩ := h15
  have hz : 1 ≤ zc (c.2.1 3) := by
    have := zc_up (f := c.2.1 3) (x := 1) hl h0 (by decide)
    omega
  have hsc : sc < 26 := by omega
  have hb := p2_nz (k := sc) (by omega)
  have hzz := zc_up (f := c.2.1 3) hl h0 hb
  refine ⟨⟨⟨h1, h2, h3, h4, h5, h6, h7, h8, h9, h10, h11, h12, h13, h14, rfl, ?_, fun q hq => by have := s3 q hq; omega, fun q hq => by have := s4 q hq; omega, fun q => if q = l then sc else ix q, fun q hq hne => ?_, fun q q' hq hq' hne hne' he => ?_, fun q hq => ?_⟩, Nat.le_refl _, Nat.le_refl _, by omega, ⟨fun j _ hj _ => upd_ne hj, rfl, rfl, fun _ _ => rfl, fun q hq hne => ?_, fun _ _ => rfl, fun _ => rfl, fun _ _ _ h => h⟩, ⟨Nat.le_refl _, fun _ _ => rfl, ?_⟩, fun _ => rfl⟩, hsc⟩
  · show sc + 1 + zc (upd (c.2.1 3) l ((1 : Int32) <<< (Int32.ofNat sc &&& 31))) = 26
    omega
  · show upd (c.2.1 3) l _ q = _ ∧ _
    by_cases hql : q = l
    · subst hql
      simp only [if_true]
      exact ⟨upd_eq, by omega⟩
    · have hne' : c.2.1 3 q ≠ 0 := by
        have e : upd (c.2.1 3) l ((1 : Int32) <<< (Int32.ofNat sc &&& 31)) q = c.2.1 3 q := upd_ne hql
        rw [← e]; exact hne
      simp only
      rw [upd_ne hql, if_neg hql]
      obtain ⟨a1, a2⟩ := s5 q hq hne'
      exact ⟨a1, by omega⟩
  · have e : ∀ z, z ≠ l → upd (c.2.1 3) l ((1 : Int32) <<< (Int32.ofNat sc &&& 31)) z = c.2.1 3 z := fun z hz => upd_ne hz
    have hne1 : q ≠ l → c.2.1 3 q ≠ 0 := fun hz => by rw [← e q hz]; exact hne
    have hne2 : q' ≠ l → c.2.1 3 q' ≠ 0 := fun hz => by rw [← e q' hz]; exact hne'
    simp only at he
    by_cases q1 : q = l
    · by_cases q2 : q' = l
      · rw [q1, q2]
      · rw [if_pos q1, if_neg q2] at he
        have := (s5 q' hq' (hne2 q2)).2
        omega
    · by_cases q2 : q' = l
      · rw [if_neg q1, if_pos q2] at he
        have := (s5 q hq (hne1 q1)).2
        omega
      · rw [if_neg q1, if_neg q2] at he
        exact s6 q q' hq hq' (hne1 q1) (hne2 q2) he
  · by_cases hqs : q = sc
    · refine ⟨l, hl, ?_, by simp [hqs]⟩
      show upd (c.2.1 3) l _ l ≠ 0
      rw [upd_eq]
      exact hb
    · obtain ⟨l0, t1, t2, t3⟩ := s7 q (by omega)
      have hne : l0 ≠ l := fun e => t2 (by rw [e]; exact h0)
      refine ⟨l0, t1, ?_, by simp only; rw [if_neg hne]; exact t3⟩
      show upd (c.2.1 3) l _ l0 ≠ 0
      rw [upd_ne hne]
      exact t2
  · show upd (c.2.1 3) l _ q = _
    rw [upd_ne (fun e => by rw [e] at hne; exact hne h0)]
  · show c.2.2.2.2.2 = _ + 6 * (c.2.2.2.2.1 - c.2.2.2.2.1)
    omega
theorem let_in (h : CW sz at_ dp lc tr pc sc c) (hin : ¬ q_in (pk sz at_ c) 97 122 = 0) : c.2.1 2 1 = 501 ∧ at_ < sz ∧ ∃ l, l < 26 ∧ pk sz at_ c = Int32.ofNat (l + 97) ∧ c.2.1 1 at_ = Int32.ofNat (l + 97) := by
  rcases pk_r h with hm | ⟨hb, hl, hp, ch, c1, c2, c3⟩
  · exfalso
    apply hin
    rw [hm]
    decide
  · have hlt : 97 ≤ ch ∧ ch ≤ 122 := by
      unfold q_in at hin
      rw [c3] at hin
      constructor
      · apply Nat.le_of_not_lt
        intro e
        rw [if_pos (show Int32.ofNat ch < 97 from (lt_N (b := 97) (by omega) (by decide)).mpr e)] at hin
        exact hin rfl
      · apply Nat.le_of_not_lt
        intro e
        apply hin
        by_cases e2 : Int32.ofNat ch < 97
        · rw [if_pos e2]
        · rw [if_neg e2, if_pos (show (122 : Int32) < Int32.ofNat ch from (lt_N (a := 122) (by decide) (by omega)).mpr e)]
    refine ⟨hb, hl, ch - 97, by omega, ?_, ?_⟩
    · rw [c3]; congr 1; omega
    · rw [← hp, c3]; congr 1; omega
theorem sub97 {l : Nat} (hl : l < 26) : Int32.ofNat (l + 97) - 97 = Int32.ofNat l ∧ Int32.ofNat (l + 97) ≠ -1 := by
  have h1 : ∀ q : Fin 26, Int32.ofNat (q.1 + 97) - 97 = Int32.ofNat q.1 ∧ Int32.ofNat (q.1 + 97) ≠ -1 := by decide
  exact h1 ⟨l, hl⟩
theorem newS_eq (h : CW sz at_ dp lc tr pc sc c) : (q_in (pk sz at_ c) 97 122 = 0 → sp_Rd_readNewSignal c = some (0, cR c)) ∧ (∀ l, l < 26 → at_ < sz → c.2.1 2 1 = 501 → pk sz at_ c = Int32.ofNat (l + 97) → sp_Rd_readNewSignal c = (if c.2.1 3 l &&& c.1 12 = 0 then (if c.2.1 3 l = 0 then some ((1 : Int32) <<< (Int32.ofNat sc &&& 31), cG l sc (cP c)) else some (c.2.1 3 l, cP c)) else some (c.2.1 3 l, cN 2 at_ (cP c)))) := by
  have h8 : c.1 8 = Int32.ofNat at_ := h.2.2.1
  have h10 : c.1 10 = Int32.ofNat sc := h.2.2.2.2.2.2.2.2.2.2.2.2.2.2.1
  constructor
  · intro hin
    unfold sp_Rd_readNewSignal
    rw [tb_eq h, if_pos hin]
    simp only
    rw [if_pos trivial]
  · intro l hl hsz hb hpk
    obtain ⟨s1, s2⟩ := sub97 hl
    have hin : ¬ q_in (pk sz at_ c) 97 122 = 0 := by
      rw [hpk]
      unfold q_in
      rw [if_neg (show ¬ (Int32.ofNat (l + 97) < 97) from fun e => by have := (lt_N (b := 97) (by omega) (by decide)).mp e; omega), if_neg (show ¬ ((122 : Int32) < Int32.ofNat (l + 97)) from fun e => by have := (lt_N (a := 122) (by decide) (by omega)).mp e; omega)]
      decide
    unfold sp_Rd_readNewSignal
    rw [tb_eq h, if_neg hin]
    simp only
    rw [hpk, if_neg s2, s1, if_pos (gi_of hl (by decide)), cl_of (by omega)]
    have e2 : ∀ c', sp_Rd_note 2 (c.1 8) c' = some (cN 2 at_ c') := fun c' => by
      rw [h8]
      exact nt_eq (k := 2) (by decide)
    rw [e2]
    have c12 : (cP c).1 12 = c.1 12 := rfl
    have c10 : (cP c).1 10 = Int32.ofNat sc := h10
    have c3 : (cP c).2.1 3 l = c.2.1 3 l := rfl
    rw [c12, c3, c10, ofN_s]
    by_cases hz : c.2.1 3 l &&& c.1 12 = 0
    · rw [if_pos hz, if_pos hz]
      by_cases h0 : c.2.1 3 l = 0
      · rw [if_pos h0, if_pos h0, upd_eq]
        rfl
      · rw [if_neg h0, if_neg h0]
    · rw [if_neg hz, if_neg hz]
      simp only
      have : ¬ ((cN 2 at_ (cP c)).2.1 3 l = 0) := fun e => by
        have e' : c.2.1 3 l = 0 := e
        apply hz
        rw [e']
        apply bt_az.mpr
        intro i hi
        rw [bt_0] at hi
        cases hi
      rw [if_neg this]
      rfl
theorem newS_cv (h : CW sz at_ dp lc tr pc sc c) : ∃ s c1 at' sc', sp_Rd_readNewSignal c = some (s, c1) ∧ CV sz at_ dp lc tr pc sc c c1 at' pc sc' ∧ at' ≤ at_ + 1 ∧ c1.2.2 = c.2.2 ∧ (∀ q, bt s q = true → q < sc') := by
  have hsz : sz ≤ 500 := h.2.1
  have hat : at_ ≤ sz := h.2.2.2.1
  obtain ⟨n1, n2⟩ := newS_eq h
  by_cases hin : q_in (pk sz at_ c) 97 122 = 0
  · refine ⟨0, cR c, at_, sc, n1 hin, CV_R h, by omega, ?_, fun q hq => by rw [bt_0] at hq; cases hq⟩
    unfold cR
    by_cases hb : c.2.1 2 1 = 501
    · rw [if_pos hb]
    · rw [if_neg hb]
  · obtain ⟨hb, hl, l, l1, l2, l3⟩ := let_in h hin
    have n2' := n2 l l1 hl hb l2
    have hP := CV_P h hl hb
    have hbits : c.2.1 3 l ≠ 0 → ∀ q, bt (c.2.1 3 l) q = true → q < sc := by
      intro h0 q hq
      obtain ⟨ix, s5, s6⟩ := h.2.2.2.2.2.2.2.2.2.2.2.2.2.2.2.2.2.2
      obtain ⟨a1, a2⟩ := s5 l l1 h0
      have hsc : sc ≤ 26 := by have := h.2.2.2.2.2.2.2.2.2.2.2.2.2.2.2.1; omega
      rw [a1, bt_p2 (by omega)] at hq
      have := of_decide_eq_true hq
      omega
    by_cases hz : c.2.1 3 l &&& c.1 12 = 0
    · rw [if_pos hz] at n2'
      by_cases h0 : c.2.1 3 l = 0
      · rw [if_pos h0] at n2'
        obtain ⟨g1, g2⟩ := CW_G (c := cP c) l1 hP.1 h0
        refine ⟨_, _, at_ + 1, sc + 1, n2', CV_tr hP g1, by omega, rfl, fun q hq => ?_⟩
        rw [bt_p2 (by omega)] at hq
        have := of_decide_eq_true hq
        omega
      · rw [if_neg h0] at n2'
        exact ⟨_, _, at_ + 1, sc, n2', hP, by omega, rfl, hbits h0⟩
    · rw [if_neg hz] at n2'
      have h0 : c.2.1 3 l ≠ 0 := fun e => hz (by
        rw [e]
        apply bt_az.mpr
        intro i hi
        rw [bt_0] at hi
        cases hi)
      exact ⟨_, _, at_ + 1, sc, n2', CV_tr hP (CV_N (by decide) (by decide) (by omega) hP.1), by omega, rfl, hbits h0⟩
end B4
