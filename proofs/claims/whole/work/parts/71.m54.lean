section J7
variable {sz at_ dp lc tr pr pc sc pt n hh : Nat} {σ : gm_S} {c : ck_S} {f : gm_S → Option (Int32 × gm_S)} {g : ck_S → Option (Option Nat × ck_S)}
def bR (g : ck_S → Option (Option Nat × ck_S)) (c1 : ck_S) : Option (Option Nat × ck_S) := (match g ((upd c1.1 13 ((c1.1 13) + 1)), c1.2.1, c1.2.2.1, c1.2.2.2.1, c1.2.2.2.2.1, c1.2.2.2.2.2) with
      | none => none
      | some y3 => (match sp_Rd_expect 41 ((upd y3.2.1 13 ((y3.2.1 13) - 1)), y3.2.2.1, y3.2.2.2.1, y3.2.2.2.2.1, y3.2.2.2.2.2.1, y3.2.2.2.2.2.2) with
        | none => none
        | some y4 => some (y3.1, y4)))
theorem ex_h {z : ck_S} {v1 : Int32} {q : Nat} : (if pk sz q z = v1 then cP z else cR z).2.2 = z.2.2 := by
  by_cases e : pk sz q z = v1
  · rw [if_pos e]; rfl
  · rw [if_neg e]; exact hR22
theorem bR_cu (h : CW sz at_ dp lc tr pc sc c) (hd : dp ≤ 12) (hb : dp = 12 → c.2.1 2 1 ≠ 501) (hf : BF n g) (hn : 13 - dp ≤ n) (htr : tr ≤ dp + 1) (hlc : lc ≤ dp + 1) : ∃ a c', bR g c = some (some a, c') ∧ CU sz at_ dp lc tr pc sc c a c' := by
  have h13 : c.1 13 = Int32.ofNat dp := h.2.2.2.2.2.1
  have hw2 := CW_13 (d := dp + 1) (by omega) h
  obtain ⟨a, c3, q1, at3, pc3, sc3, q2, q3, q4, q5, q6, q7⟩ := hf sz at_ (dp + 1) lc tr pc sc _ hw2 (fun e => hb (by omega)) (by omega) htr hlc
  unfold bR
  rw [h13, ofN_s]
  have q1' : g ((upd c.1 13 (Int32.ofNat (dp + 1))), c.2.1, c.2.2.1, c.2.2.2.1, c.2.2.2.2.1, c.2.2.2.2.2) = some (some a, c3) := q1
  rw [q1']
  simp only
  have e3 : c3.1 13 = Int32.ofNat (dp + 1) := q2.1.2.2.2.2.2.1
  rw [e3, sb2 (by omega), Nat.add_sub_cancel]
  have hv := CV_13 h13 (by omega) q2
  obtain ⟨at4, x1, x2, _⟩ := CV_ex (v1 := 41) (by decide) hv.1
  have e4 := ex_eq (v1 := 41) hv.1
  have e4' : sp_Rd_expect 41 ((upd c3.1 13 (Int32.ofNat dp)), c3.2.1, c3.2.2.1, c3.2.2.2.1, c3.2.2.2.2.1, c3.2.2.2.2.2) = _ := e4
  rw [e4']
  have hx := x1.2.1
  have hh : (if pk sz at3 (upd c3.1 13 (Int32.ofNat dp), c3.2) = 41 then cP (upd c3.1 13 (Int32.ofNat dp), c3.2) else cR (upd c3.1 13 (Int32.ofNat dp), c3.2)).2.2 = c3.2.2 := ex_h
  refine ⟨a, _, rfl, at4, pc3, sc3, CV_tr hv x1, by omega, by rw [hh]; have : (upd c.1 13 (Int32.ofNat (dp + 1)), c.2).2.2.2.2.1 = c.2.2.2.2.1 := rfl; rw [this] at q4; omega, q5, by rw [hh]; exact q6, ?_⟩
  obtain ⟨kd, v, f', w, o, hn⟩ := q7
  refine ⟨kd, v, f', w, o, ?_⟩
  have : ∀ z : ck_S, z.2.2 = c3.2.2 → z.2.2.2.1 = c3.2.2.2.1 := fun z hz => by rw [hz]
  rw [this _ hh]
  exact hn
theorem rb_bR (h : CW sz at_ dp lc tr pc sc c) : sp_Rd_readBody g c = (if dp < 12 then bR g (if pk sz at_ c = 40 then cP c else cR c) else bR g (cR (cR c))) := by
  have h13 : c.1 13 = Int32.ofNat dp := h.2.2.2.2.2.1
  have hdp : dp ≤ 13 := h.2.2.2.2.2.2.1
  unfold sp_Rd_readBody
  rw [h13]
  by_cases h12 : dp < 12
  · rw [if_pos (show Int32.ofNat dp < 12 from (lt_N (b := 12) (by omega) (by decide)).mpr h12), ex_eq (v1 := 40) h, if_pos h12]
    rfl
  · rw [if_neg (show ¬ (Int32.ofNat dp < 12) from fun e => h12 ((lt_N (b := 12) (by omega) (by decide)).mp e)), rf_eq, if_neg h12]
    simp only
    have hr := CW_R h
    rw [ex_eq (v1 := 40) hr.1]
    simp only
    rw [pk_b hr.2.1, if_neg (by decide)]
    rfl
def JO (k hh : Nat) (sz at_ dp lc tr pr pc sc pt : Nat) (σ : gm_S) (c : ck_S) (R : Option (Int32 × gm_S)) (C : Option (Option Nat × ck_S)) : Prop := ∃ r σ' a c', R = some (r, σ') ∧ C = some (some a, c') ∧ rW σ σ' ∧ ((r = 1 ∧ VG k hh sz at_ dp lc tr pr pc sc pt σ c (σ'.1 34) σ' a c') ∨ (r = 0 ∧ c'.2.1 2 1 = σ'.1 27 ∧ ∃ w, w ≤ 500 ∧ σ'.1 27 = Int32.ofNat w))
def JUo (kk hh : Nat) (sz at_ dp lc tr pr pc sc pt : Nat) (σ : gm_S) (c : ck_S) (R : Option (Int32 × gm_S)) (C : Option (Option Nat × ck_S)) : Prop := ∃ r σ' a c', R = some (r, σ') ∧ C = some (some a, c') ∧ rW σ σ' ∧ ((r = 1 ∧ UG kk hh sz at_ dp lc tr pr pc sc pt σ c (σ'.1 34) σ' a c') ∨ (r = 0 ∧ c'.2.1 2 1 = σ'.1 27 ∧ ∃ w, w ≤ 500 ∧ σ'.1 27 = Int32.ofNat w))
def JF (n : Nat) (f : gm_S → Option (Int32 × gm_S)) (g : ck_S → Option (Option Nat × ck_S)) : Prop := ∀ sz at_ dp lc tr pr pc sc pt σ c, QR sz at_ dp lc tr pr pc sc pt σ c → dp ≤ 12 → tr ≤ dp → lc ≤ dp → 13 - dp ≤ n → pt ≤ 5 * at_ + 4 → JUo 1 (7 * (13 - dp)) sz at_ dp lc tr pr pc sc pt σ c (f σ) (g c)
theorem QR_13 {d : Nat} (hd : d ≤ 13) (h : QR sz at_ dp lc tr pr pc sc pt σ c) : QR sz at_ d lc tr pr pc sc pt (upd σ.1 28 (Int32.ofNat d), σ.2) (upd c.1 13 (Int32.ofNat d), c.2) := by
  obtain ⟨q1, q2, q3, q4, q5, q6, q7, q8, q9, q10, q11, q12, q13, q14, q15⟩ := h
  exact ⟨CW_13 hd q1, q2, q3, q4, q5, rfl, q7, q8, q9, q10, q11, q12, q13, q14, q15⟩
theorem Gc_13 {x : Int32} : Gc (upd c.1 13 x, c.2) = Gc c := rfl
theorem body_j (h : QR sz at_ dp lc tr pr pc sc pt σ c) (hd : dp ≤ 12) (htr : tr ≤ dp + 1) (hlc : lc ≤ dp + 1) (hf : JF n f g) (hg : BF (n + 1) g) (hn : 12 - dp ≤ n) (hpt : pt ≤ 5 * at_ + 9) : JUo 11 (7 * (12 - dp)) sz at_ dp lc tr pr pc sc pt σ c (sp_Md_readInner f σ) (sp_Rd_readBody g c) := by
  have hs : sz ≤ 500 := h.1.2.1
  have ha : at_ ≤ sz := h.1.2.2.2.1
  have h27 : σ.1 27 = Int32.ofNat at_ := h.2.2.2.1
  have h28 : σ.1 28 = Int32.ofNat dp := h.2.2.2.2.2.1
  have hb : c.2.1 2 1 = 501 := h.2.1
  have hr := CW_R h.1
  unfold sp_Md_readInner
  rw [see_eq h]
  simp only
  rw [rb_bR h.1]
  by_cases hp : sv sz at_ σ = 40
  · have hpk : pk sz at_ c = 40 := (sv_iff h (x := 40) (by decide) (by decide)).mp hp
    rw [if_pos hp, h28]
    by_cases h12 : dp = 12
    · -- too deep: refused
      rw [if_pos (by rw [h12]; rfl), if_neg (by omega)]
      have hrr := CW_R hr.1
      obtain ⟨a, c', x1, at', pc', sc', x2, _⟩ := bR_cu (g := g) hrr.1 hd (fun _ => hrr.2.1) hg (by omega) htr hlc
      refine ⟨0, σ, a, c', rfl, x1, rW_rf, Or.inr ⟨rfl, ?_, at_, by omega, h27⟩⟩
      rw [x2.2.2.2.2.1.2.2.2.2.2.2.1 hrr.2.1, hrr.2.2.2 hr.2.1, hr.2.2.1 hb, h27]
    · rw [if_neg (show ¬ (Int32.ofNat dp = 12) from fun e => h12 ((eq_N (b := 12) (by omega) (by decide)).mp e)), if_pos (by omega), if_pos hpk]
      have hlt : at_ < sz := by
        rcases sv_pk h with ⟨e, _⟩ | ⟨_, e, _⟩
        · exact e
        · rw [e] at hp
          exact absurd hp (by decide)
      have hQ1 := QR_13 (d := dp + 1) (by omega) (QR_P h hlt)
      obtain ⟨r, σ1, a, c1, j1, j2, j3, j4⟩ := hf _ _ _ _ _ _ _ _ _ _ _ hQ1 (by omega) htr hlc (by omega) (by omega)
      have e28 : (upd (upd σ.1 28 (Int32.ofNat dp + 1)) 27 (σ.1 27 + 1), σ.2) = ((upd (mP σ).1 28 (Int32.ofNat (dp + 1)), (mP σ).2) : gm_S) := by
        rw [ofN_s]
        unfold mP
        simp only
        have : upd (upd σ.1 28 (Int32.ofNat (dp + 1))) 27 (σ.1 27 + 1) = upd (upd σ.1 27 (σ.1 27 + 1)) 28 (Int32.ofNat (dp + 1)) := by
          funext q
          unfold upd
          by_cases q1 : q = 27 <;> by_cases q2 : q = 28 <;> simp [q1, q2]
        rw [this]
      rw [e28, j1]
      simp only
      have hc13 : (cP c).1 13 = Int32.ofNat dp := h.1.2.2.2.2.2.1
      have hbR : bR g (cP c) = (match sp_Rd_expect 41 ((upd c1.1 13 ((c1.1 13) - 1)), c1.2.1, c1.2.2.1, c1.2.2.2.1, c1.2.2.2.2.1, c1.2.2.2.2.2) with
          | none => none
          | some y4 => some (some a, y4)) := by
        unfold bR
        rw [hc13, ofN_s]
        have j2' : g ((upd (cP c).1 13 (Int32.ofNat (dp + 1))), (cP c).2.1, (cP c).2.2.1, (cP c).2.2.2.1, (cP c).2.2.2.2.1, (cP c).2.2.2.2.2) = some (some a, c1) := j2
        rw [j2']
      have hrW0 : rW σ (upd (mP σ).1 28 (Int32.ofNat (dp + 1)), (mP σ).2) := by
        refine ⟨fun j h27' h28' _ _ _ _ _ => ?_, fun _ _ _ _ _ _ _ => rfl⟩
        show upd (upd σ.1 27 _) 28 _ j = _
        rw [upd_ne h28', upd_ne h27']
      rcases j4 with ⟨hr1, at2, pc2, sc2, pt2, pn, u1, u2, u3, u4, u5, u6, u7, u8⟩ | ⟨hr0, hf0, w, w1, w2⟩
      · -- it was read
        rw [hr1, if_neg (by decide)]
        have e13 : c1.1 13 = Int32.ofNat (dp + 1) := u1.1.2.2.2.2.2.1
        have s28 : σ1.1 28 = Int32.ofNat (dp + 1) := u1.2.2.2.2.2.1
        rw [e13, sb2 (by omega), Nat.add_sub_cancel] at hbR
        have hQ2 := QR_13 (d := dp) (by omega) u1
        have hcv2 : CV sz at_ dp lc tr pc sc c (upd c1.1 13 (Int32.ofNat dp), c1.2) at2 pc2 sc2 := CV_tr (CV_P h.1 hlt hb) (CV_13 hc13 (by omega) u2)
        have hwant : sp_Md_want 41 σ1 = some (if sv sz at2 σ1 = 41 then (1, mP σ1) else (0, σ1)) := by
          unfold sp_Md_want
          rw [see_eq u1]
          simp only
          by_cases e : sv sz at2 σ1 = 41
          · rw [if_pos e, if_pos e]; rfl
          · rw [if_neg e, if_neg e]
        rw [hwant]
        simp only
        have hsv2 : sv sz at2 (upd σ1.1 28 (Int32.ofNat dp), σ1.2) = sv sz at2 σ1 := rfl
        have hexp := ex_eq (v1 := 41) hQ2.1
        have hexp' : sp_Rd_expect 41 ((upd c1.1 13 (Int32.ofNat dp)), c1.2.1, c1.2.2.1, c1.2.2.2.1, c1.2.2.2.2.1, c1.2.2.2.2.2) = _ := hexp
        rw [hexp'] at hbR
        simp only at hbR
        have hat2 := u2.2.1
        by_cases he : sv sz at2 σ1 = 41
        · have hpk2 : pk sz at2 (upd c1.1 13 (Int32.ofNat dp), c1.2) = 41 := (sv_iff hQ2 (x := 41) (by decide) (by decide)).mp (by rw [hsv2]; exact he)
          rw [if_pos hpk2] at hbR
          rw [if_pos he]
          simp only
          rw [if_neg (by decide)]
          have hlt2 : at2 < sz := by
            rcases sv_pk u1 with ⟨e, _⟩ | ⟨_, e, _⟩
            · exact e
            · rw [e] at he
              exact absurd he (by decide)
          have e28' : (mP σ1).1 28 = Int32.ofNat (dp + 1) := s28
          rw [e28', sb2 (by omega), Nat.add_sub_cancel]
          have hQ3 := QR_P hQ2 hlt2
          have hQ3' : QR sz (at2 + 1) dp lc tr pr pc2 sc2 pt2 (upd (mP σ1).1 28 (Int32.ofNat dp), (mP σ1).2) (cP (upd c1.1 13 (Int32.ofNat dp), c1.2)) := by
            have eq : (mP (upd σ1.1 28 (Int32.ofNat dp), σ1.2)) = ((upd (mP σ1).1 28 (Int32.ofNat dp), (mP σ1).2) : gm_S) := by
              unfold mP
              simp only
              have : upd (upd σ1.1 28 (Int32.ofNat dp)) 27 (upd σ1.1 28 (Int32.ofNat dp) 27 + 1) = upd (upd σ1.1 27 (σ1.1 27 + 1)) 28 (Int32.ofNat dp) := by
                funext q
                unfold upd
                by_cases q1 : q = 27 <;> by_cases q2 : q = 28 <;> simp [q1, q2]
              rw [this]
            rw [eq] at hQ3
            exact hQ3
          have hrW1 : rW σ1 (upd (mP σ1).1 28 (Int32.ofNat dp), (mP σ1).2) := by
            refine ⟨fun j h27' h28' _ _ _ _ _ => ?_, fun _ _ _ _ _ _ _ => rfl⟩
            show upd (upd σ1.1 27 _) 28 _ j = _
            rw [upd_ne h28', upd_ne h27']
          refine ⟨1, _, a, _, rfl, hbR, rW_tr hrW0 (rW_tr j3 hrW1), Or.inl ⟨rfl, at2 + 1, pc2, sc2, pt2, pn, hQ3', CV_tr hcv2 (CV_P hcv2.1 hlt2 hQ2.2.1), ?_, ?_, u5, u6, ?_, ?_⟩⟩
          · obtain ⟨v1, v2, v3, v4, v5, v6⟩ := u3
            exact ⟨rW_tr hrW0 (rW_tr j3 hrW1), v2, v3, v4, v5, v6⟩
          · omega
          · exact u7
          · intro hno
            have := u8 hno
            rw [show 7 * (12 - dp) = 7 * (13 - (dp + 1)) by omega]
            exact this
        · have hpk2 : ¬ (pk sz at2 (upd c1.1 13 (Int32.ofNat dp), c1.2) = 41) := fun e => he ((sv_iff hQ2 (x := 41) (by decide) (by decide)).mpr e)
          rw [if_neg hpk2] at hbR
          rw [if_neg he]
          simp only
          rw [if_pos trivial]
          have hr2 := CW_R hQ2.1
          have s27 : σ1.1 27 = Int32.ofNat at2 := u1.2.2.2.1
          have hle2 : at2 ≤ sz := u1.1.2.2.2.1
          refine ⟨0, σ1, a, _, rfl, hbR, rW_tr hrW0 j3, Or.inr ⟨rfl, ?_, at2, by omega, s27⟩⟩
          rw [hr2.2.2.1 hQ2.2.1, s27]
      · -- it stopped within
        rw [hr0, if_pos rfl]
        obtain ⟨a', c', x1, at', pc', sc', x2, _⟩ := bR_cu (g := g) (CV_P h.1 hlt hb).1 hd (fun e => absurd e h12) hg (by omega) htr hlc
        have hne : c1.2.1 2 1 ≠ 501 := by
          rw [hf0, w2]
          intro e
          have := (eq_N (b := 501) (by omega) (by decide)).mp e
          omega
        obtain ⟨a3, c3, y1, at3, pc3, sc3, y2, _⟩ := hg sz (at_ + 1) (dp + 1) lc tr pc sc _ hQ1.1 (fun e => by omega) (by omega) htr hlc
        rw [j2] at y1
        obtain ⟨_, hcc⟩ := Prod.mk.inj (Option.some.inj y1)
        rw [← hcc] at y2
        have e13 : c1.1 13 = Int32.ofNat (dp + 1) := y2.1.2.2.2.2.2.1
        have hv := CW_13 (d := dp) (by omega) y2.1
        rw [e13, sb2 (by omega), Nat.add_sub_cancel] at hbR
        have hexp := ex_eq (v1 := 41) hv
        have hexp' : sp_Rd_expect 41 ((upd c1.1 13 (Int32.ofNat dp)), c1.2.1, c1.2.2.1, c1.2.2.2.1, c1.2.2.2.2.1, c1.2.2.2.2.2) = _ := hexp
        rw [hexp', pk_b (c := (upd c1.1 13 (Int32.ofNat dp), c1.2)) hne, if_neg (by decide)] at hbR
        refine ⟨0, σ1, a, _, rfl, hbR, rW_tr hrW0 j3, Or.inr ⟨rfl, ?_, w, w1, w2⟩⟩
        have : cR (upd c1.1 13 (Int32.ofNat dp), c1.2) = (upd c1.1 13 (Int32.ofNat dp), c1.2) := (CW_R hv).2.2.2 hne
        rw [this]
        exact hf0
  · have hpk : ¬ (pk sz at_ c = 40) := fun e => hp ((sv_iff h (x := 40) (by decide) (by decide)).mpr e)
    rw [if_neg hp]
    by_cases h12 : dp < 12
    · rw [if_pos h12, if_neg hpk]
      obtain ⟨a, c', x1, at', pc', sc', x2, _⟩ := bR_cu (g := g) hr.1 hd (fun _ => hr.2.1) hg (by omega) htr hlc
      refine ⟨0, σ, a, c', rfl, x1, rW_rf, Or.inr ⟨rfl, ?_, at_, by omega, h27⟩⟩
      rw [x2.2.2.2.2.1.2.2.2.2.2.2.1 hr.2.1, hr.2.2.1 hb, h27]
    · rw [if_neg h12]
      have hrr := CW_R hr.1
      obtain ⟨a, c', x1, at', pc', sc', x2, _⟩ := bR_cu (g := g) hrr.1 hd (fun _ => hrr.2.1) hg (by omega) htr hlc
      refine ⟨0, σ, a, c', rfl, x1, rW_rf, Or.inr ⟨rfl, ?_, at_, by omega, h27⟩⟩
      rw [x2.2.2.2.2.1.2.2.2.2.2.2.1 hrr.2.1, hrr.2.2.2 hr.2.1, hr.2.2.1 hb, h27]
end J7
