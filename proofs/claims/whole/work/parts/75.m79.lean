def cFin (nm ni no : Int32) (b : Option Nat) (c : ck_S) : Option (Option Nat × ck_S) := (match sp_Arrays_copyOf_5 (q_min (c.1 16) 30) c with
  | none => none
  | some y19 => (match sp_Prog_init y19.2.2.2.2.2.1 nm ni no b y19.1 (y19.2.1, y19.2.2.1, y19.2.2.2.1, (eset y19.2.2.2.2.1 y19.2.2.2.2.2.1 (.inr (3, gx_def gx_kd3))), (y19.2.2.2.2.2.1 + 1), (y19.2.2.2.2.2.2 + 5)) with
    | none => none
    | some y20 => some ((some y19.2.2.2.2.2.1), y20)))
def cEnd (nm ni no : Int32) (c : ck_S) : Option (Option Nat × ck_S) := (match sp_Rd_expect 123 c with
  | none => none
  | some y16 => (match rb 20 y16 with
    | none => none
    | some y17 => (match sp_Rd_expect 125 y17.2 with
      | none => none
      | some y18 => cFin nm ni no y17.1 y18)))
def cOut (nm ni : Int32) (c : ck_S) : Option (Option Nat × ck_S) := (match sp_Rd_readSignals c with
  | none => none
  | some y15 => cEnd nm ni y15.1 y15.2)
def cArr (nm ni : Int32) (c : ck_S) : Option (Option Nat × ck_S) := (match sp_Rd_expect 41 c with
  | none => none
  | some y5 => (match sp_Rd_seesLetter y5 with
    | none => none
    | some y6 => (if y6.1 = 0 then (match sp_Rd_refuse y6.2 with
      | none => none
      | some y14 => cOut nm ni y14) else cOut nm ni y6.2)))
def cIn (nm : Int32) (c : ck_S) : Option (Option Nat × ck_S) := (match sp_Rd_expect 40 c with
  | none => none
  | some y3 => (match sp_Rd_readSignals y3 with
    | none => none
    | some y4 => cArr nm y4.1 ((upd y4.2.1 11 (y4.2.1 12)), y4.2.2)))
def cPg (c : ck_S) : Option (Option Nat × ck_S) := (match sp_Rd_startProgram c with
  | none => none
  | some y1 => (match sp_Rd_readName y1 with
    | none => none
    | some y2 => cIn y2.1 y2.2))
theorem cPg_eq {c : ck_S} : sp_Rd_readProgram c = cPg c := rfl
section H2
variable {sz at_ dp lc tr pr pc sc pt : Nat} {σ : gm_S} {c : ck_S}
theorem ep_s {E : ck_E} {b ci k : Nat} {fs : List Value} {v : Value} (hk : k < fs.length) : ep (eset E b (.inr (ci, fs))) b ci k v = some (eset E b (.inr (ci, fs.set k v))) := by
  unfold ep
  rw [eset_eq]
  simp only
  rw [if_pos trivial, if_pos hk, eset2]
theorem pi_eq {E : ck_E} {P : Nat} {nm ni no : Int32} {b pa : Option Nat} {r : Nat → Int32} {ar : Nat → Nat → Int32} {k : Nat → Option Nat} {nx sl : Nat} : sp_Prog_init P nm ni no b pa (r, ar, k, eset E P (.inr (3, gx_def gx_kd3)), nx, sl) = some (r, ar, k, eset E P (.inr (3, [.int nm, .int ni, .int no, va_rf b, va_rf pa])), nx, sl) := by
  have hd : gx_def gx_kd3 = [.int 0, .int 0, .int 0, .null, .null] := rfl
  unfold sp_Prog_init
  rw [hd]
  simp only
  rw [ep_s (by simp)]
  simp only
  rw [ep_s (by simp)]
  simp only
  rw [ep_s (by simp)]
  simp only
  rw [ep_s (by simp)]
  simp only
  rw [ep_s (by simp)]
  rfl
def cD (n : Nat) (f : Nat → Int32) (nm ni no : Int32) (b : Option Nat) (c : ck_S) : ck_S := (c.1, c.2.1, c.2.2.1, eset (eset c.2.2.2.1 c.2.2.2.2.1 (.inl (0, n, .inl f))) (c.2.2.2.2.1 + 1) (.inr (3, [.int nm, .int ni, .int no, va_rf b, .ref c.2.2.2.2.1])), c.2.2.2.2.1 + 2, c.2.2.2.2.2 + n + 5)
theorem fin_eq {nm ni no : Int32} {b : Option Nat} (h : CW sz at_ dp lc tr pc sc c) : ∃ f, cFin nm ni no b c = some (some (c.2.2.2.2.1 + 1), cD (min pc 30) f nm ni no b c) ∧ ∀ i, i < min pc 30 → f i = c.2.1 5 i := by
  have h16 : c.1 16 = Int32.ofNat pc := h.2.2.2.2.2.2.2.2.2.2.2.1
  have hs : sz ≤ 500 := h.2.1
  have ha : at_ ≤ sz := h.2.2.2.1
  have hpa : pc ≤ at_ := h.2.2.2.2.2.2.2.2.2.2.2.2.1
  have hm : q_min (c.1 16) 30 = Int32.ofNat (min pc 30) := by
    unfold q_min
    rw [h16]
    by_cases hl : 30 < pc
    · rw [if_pos (show (30 : Int32) < Int32.ofNat pc from (lt_N (a := 30) (by decide) (by omega)).mpr hl), Nat.min_eq_right (by omega)]
      rfl
    · rw [if_neg (show ¬ ((30 : Int32) < Int32.ofNat pc) from fun e => hl ((lt_N (a := 30) (by decide) (by omega)).mp e)), Nat.min_eq_left (by omega)]
  unfold cFin
  rw [hm]
  unfold sp_Arrays_copyOf_5
  by_cases h30 : pc < 30
  · rw [if_neg (show ¬ (Int32.ofNat (min pc 30) = 30) from fun e => by have := (eq_N (b := 30) (by omega) (by decide)).mp e; omega), if_pos (gi_of (by omega) (by decide)), cl_of (by omega)]
    simp only
    rw [pi_eq]
    refine ⟨_, rfl, fun i hi => ?_⟩
    unfold va_cpy
    rw [if_pos (by omega), Nat.zero_add, Nat.sub_zero]
  · rw [Nat.min_eq_right (by omega), if_pos (show Int32.ofNat 30 = 30 from rfl)]
    simp only
    rw [pi_eq]
    exact ⟨_, rfl, fun i _ => rfl⟩
def PC (sz at_ : Nat) (c : ck_S) (C : Option (Option Nat × ck_S)) : Prop := ∃ P c' at', C = some (some P, c') ∧ CT sz at' c' ∧ at_ ≤ at' ∧ TF c c' ∧ c.2.2.2.2.1 ≤ P ∧ eo c'.2.2.2.1 P 3 = true ∧ c'.2.2.2.2.1 ≤ c.2.2.2.2.1 + 12 * (at' - at_) + 3 ∧ c'.2.2.2.2.2 ≤ c.2.2.2.2.2 + 72 * (at' - at_) + 41
theorem end_c {nm ni no : Int32} (h : CW sz at_ 0 0 0 0 sc c) : PC sz at_ c (cEnd nm ni no c) := by
  unfold cEnd
  rw [ex_eq (v1 := 123) h]
  obtain ⟨at1, x1, _, _⟩ := CV_ex (v1 := 123) (by decide) h
  simp only
  generalize hc1 : (if pk sz at_ c = 123 then cP c else cR c) = c1 at x1
  have hh1 : c1.2.2 = c.2.2 := by
    rw [← hc1]
    by_cases e : pk sz at_ c = 123
    · rw [if_pos e]; rfl
    · rw [if_neg e]; exact cR_h
  obtain ⟨a, c2, r1, at2, pc2, sc2, r2, r3, r4, r5, r6, r7⟩ := rb_BF 20 sz at1 0 0 0 0 sc c1 x1.1 (fun e => by omega) (by omega) (by omega) (by omega)
  rw [r1]
  simp only
  rw [ex_eq (v1 := 125) r2.1]
  obtain ⟨at3, x3, _, _⟩ := CV_ex (v1 := 125) (by decide) r2.1
  simp only
  generalize hc3 : (if pk sz at2 c2 = 125 then cP c2 else cR c2) = c3 at x3
  have hh3 : c3.2.2 = c2.2.2 := by
    rw [← hc3]
    by_cases e : pk sz at2 c2 = 125
    · rw [if_pos e]; rfl
    · rw [if_neg e]; exact cR_h
  obtain ⟨f, f1, _⟩ := fin_eq (nm := nm) (ni := ni) (no := no) (b := some a) x3.1
  rw [f1]
  have hcv := CV_tr x1 (CV_tr r2 x3)
  have t := TF_v hcv
  have n1 : c1.2.2.2.2.1 = c.2.2.2.2.1 := by rw [hh1]
  have n3 : c3.2.2.2.2.1 = c2.2.2.2.2.1 := by rw [hh3]
  have hch := hcv.2.2.2.2.2.1
  have m1 := x1.2.1
  have m2 := r2.2.1
  have m3 := x3.2.1
  refine ⟨_, _, at3, rfl, CW_T x3.1, by omega, ?_, ?_, ?_, ?_, ?_⟩
  · obtain ⟨t1, t2, t3, t4, t5, t6, t7⟩ := t
    refine ⟨t1, t2, t3, t4, t5, fun q hq => ?_, ?_⟩
    · show eset (eset c3.2.2.2.1 c3.2.2.2.2.1 _) (c3.2.2.2.2.1 + 1) _ q = _
      rw [eset_ne (by omega), eset_ne (by omega)]
      exact t6 q hq
    · show c.2.2.2.2.1 ≤ c3.2.2.2.2.1 + 2
      omega
  · have := hch.1
    omega
  · show eo (eset _ _ _) _ 3 = true
    unfold eo
    rw [eset_eq]
    rfl
  · show c3.2.2.2.2.1 + 2 ≤ _
    omega
  · show c3.2.2.2.2.2 + min pc2 30 + 5 ≤ _
    have := hch.2.2
    have := Nat.min_le_right pc2 30
    omega
theorem PC_W {c1 : ck_S} {at1 : Nat} {C : Option (Option Nat × ck_S)} (ht : TF c c1) (hh : c1.2.2 = c.2.2) (ha : at_ ≤ at1) (h : PC sz at1 c1 C) : PC sz at_ c C := by
  obtain ⟨P, c', at', p1, p2, p3, p4, p5, p6, p7, p8⟩ := h
  rw [hh] at p5 p7 p8
  exact ⟨P, c', at', p1, p2, by omega, TF_tr ht p4, p5, p6, by omega, by omega⟩
theorem out_c {nm ni : Int32} (h : CW sz at_ 0 0 0 0 sc c) : PC sz at_ c (cOut nm ni c) := by
  unfold cOut
  have hs : sz ≤ 500 := h.2.1
  obtain ⟨at', sc', c', r1, r2, r3, r4, r5⟩ := sigs_c (v0 := c.1 10) sz 2601 at_ sc 0 c h (by omega) (by omega) (by omega)
  have e : sp_Rd_readSignals c = some (c'.1 10 - c.1 10, c') := r1
  rw [e]
  exact PC_W r4 r5 r3 (end_c r2)
theorem arr_c {nm ni : Int32} (h : CW sz at_ 0 0 0 0 sc c) : PC sz at_ c (cArr nm ni c) := by
  unfold cArr
  rw [ex_eq (v1 := 41) h]
  obtain ⟨at1, x1, _, _⟩ := CV_ex (v1 := 41) (by decide) h
  simp only
  generalize hc1 : (if pk sz at_ c = 41 then cP c else cR c) = c1 at x1
  have hh1 : c1.2.2 = c.2.2 := by
    rw [← hc1]
    by_cases e : pk sz at_ c = 41
    · rw [if_pos e]; rfl
    · rw [if_neg e]; exact cR_h
  rw [sl_eq x1.1]
  simp only
  by_cases hq : q_in (pk sz at1 c1) 97 122 = 0
  · rw [if_pos hq, rf_eq]
    have hr := CV_R x1.1
    exact PC_W (TF_v (CV_tr x1 hr)) (cR_h.trans hh1) (by have := x1.2.1; omega) (out_c hr.1)
  · rw [if_neg hq]
    exact PC_W (TF_v x1) hh1 x1.2.1 (out_c x1.1)
theorem in_c {nm : Int32} (h : CW sz at_ 0 0 0 0 sc c) : PC sz at_ c (cIn nm c) := by
  unfold cIn
  have hs : sz ≤ 500 := h.2.1
  rw [ex_eq (v1 := 40) h]
  obtain ⟨at1, x1, _, _⟩ := CV_ex (v1 := 40) (by decide) h
  simp only
  generalize hc1 : (if pk sz at_ c = 40 then cP c else cR c) = c1 at x1
  have hh1 : c1.2.2 = c.2.2 := by
    rw [← hc1]
    by_cases e : pk sz at_ c = 40
    · rw [if_pos e]; rfl
    · rw [if_neg e]; exact cR_h
  obtain ⟨at', sc', c', r1, r2, r3, r4, r5⟩ := sigs_c (v0 := c1.1 10) sz 2601 at1 sc 0 c1 x1.1 (by omega) (by omega) (by omega)
  have e : sp_Rd_readSignals c1 = some (c'.1 10 - c1.1 10, c') := r1
  rw [e]
  have h12 : ∀ q, bt (c'.1 12) q = true → q < sc' := r2.2.2.2.2.2.2.2.2.2.2.2.2.2.2.2.2.1
  exact PC_W (TF_tr (TF_v x1) (TF_tr r4 (TF_w (by decide) (by decide)))) (r5.trans hh1) (by have := x1.2.1; omega) (arr_c (CW_11 h12 r2))
theorem prog_c (h : CT sz at_ c) : PC sz at_ c (sp_Rd_readProgram c) := by
  rw [cPg_eq]
  unfold cPg
  obtain ⟨c1, s1, s2, s3, s4, _, _, s7, _⟩ := start_eq h
  rw [s1]
  simp only
  obtain ⟨x, c2, at2, n1, n2, n3, n4, n5⟩ := name_c s2
  rw [n1]
  have t1 : TF c c1 := ⟨fun j hj => s4 j (by omega), by rw [s3], by rw [s7 1 (by decide)], fun _ => by rw [s7 2 (by decide)], fun k _ _ h0 => by rw [s7 2 (by decide)]; exact h0, fun q _ => by rw [s3], by rw [s3]; exact Nat.le_refl _⟩
  exact PC_W (TF_tr t1 n4) (n5.trans s3) n3 (in_c n2)
end H2
