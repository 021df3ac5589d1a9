section S1
variable {lim : Nat} {σ : gm_S} {σs : ck_S} {E : ck_E} {k P t : Nat} {ρ : Nat → Int32}
theorem eset_ne {b q : Nat} {c : gx_C} (h : q ≠ b) : eset E b c q = E q := if_neg h
theorem eset_eq {b : Nat} {c : gx_C} : eset E b c b = some c := if_pos rfl
theorem tC_F {ci : Nat} (hci : ci ≠ 6) (ht : E t = some (tC ρ)) {c : gx_C} : eF ci E (eset E t c) := by
  intro q fs hq
  have : q ≠ t := fun e => by
    rw [e, ht] at hq
    unfold tC at hq
    injection hq with hq
    injection hq with hq
    injection hq with hq _
    exact hci hq.symm
  rw [eset_ne this]
  exact hq
theorem tC_Fa (ht : E t = some (tC ρ)) {c : gx_C} : eFa lim E (eset E t c) := by
  intro q n f hlq hq
  have : q ≠ t := fun e => by
    rw [e, ht] at hq
    unfold tC at hq
    cases hq
  rw [eset_ne this]
  exact hq
theorem tC_0 (ht : E t = some (tC ρ)) : egI E t 6 0 = some (ρ 0) ∧ egI E t 6 1 = some (ρ 1) ∧ eo E t 6 = true := by
  have h1 : egI E t 6 0 = some (ρ 0) := by
    unfold egI eg
    rw [ht]
    rfl
  refine ⟨h1, ?_, eo_ofI h1⟩
  unfold egI eg
  rw [ht]
  rfl
def rK (σ σ' : gm_S) : Prop := (∀ j, (j < 39 ∨ 43 < j) → j ≠ 57 → j ≠ 58 → j ≠ 59 → σ'.1 j = σ.1 j) ∧ (∀ j, j ≠ 38 → σ'.2 j = σ.2 j)
def wI (A : Nat → Nat → Int32) (k : Nat) : Int32 := A 25 (A 16 k).toNatClampNeg
theorem isIt1 (h : zPR lim σ.2 E k P) (hE : σs.2.2.2.1 = E) (h0 : σs.2.2.1 0 = some t) (h9 : σs.2.2.1 9 = some P) (ht : E t = some (tC ρ)) {m : Nat} (hm : m < 300) {what set : Int32} (h11 : σs.1 11 = what) (hw : what = -1 ∨ ∃ w, w < 26 ∧ what = Int32.ofNat w) (hseen : σ.2 52 (2 * m) = σs.2.1 1 m) (hst : sOK (wI σ.2 k) (σs.2.1 1 m)) {ni : Nat} (hni : σ.2 12 k = Int32.ofNat ni) (hn26 : ni ≤ 26) (hset : ∀ q, bt set q = true → q < ni) :
    ∃ (o : Nat) (σ' : gm_S) (r' : Nat → Int32) (ρ' : Nat → Int32), o < 3 ∧ sp_Md_isIt (Int32.ofNat k) what (-1) (Int32.ofNat m) set σ = some (if o = 0 then 1 else 0, σ') ∧ sp_Sk_goAlone (Int32.ofNat m) set σs = some (Int32.ofNat o, (r', σs.2.1, σs.2.2.1, eset E t (tC ρ'), σs.2.2.2.2)) ∧ rK σ σ' ∧ (∀ j, j ≠ 12 → j ≠ 13 → r' j = σs.1 j) ∧ (o = 1 → σ'.1 57 = 1 ∧ σ'.1 58 = r' 12 ∧ σ'.1 59 = 0 ∧ r' 13 = -2 ∧ sOK (wI σ.2 k) (r' 12)) ∧ (o = 2 → σ'.1 57 = 0) := by
  obtain ⟨how, σ', ρ', a1, a2, a3, a4, a5, a6⟩ := PR_tk (st := σs.2.1 1 m) h σs hE ht hst hni hn26 hset
  have hix : (2 : Int32) * Int32.ofNat m = Int32.ofNat (2 * m) := by rw [show (2 : Int32) = Int32.ofNat 2 from rfl, ofN_mul]
  have hcl : (Int32.ofNat m).toNatClampNeg = m := cl_of (by omega)
  have hcl2 : (Int32.ofNat (2 * m)).toNatClampNeg = 2 * m := cl_of (by omega)
  obtain ⟨c1, c2, c3⟩ := tC_0 ht
  obtain ⟨d1, d2, d3⟩ := tC_0 (E := eset E t (tC ρ')) (t := t) (ρ := ρ') eset_eq
  have hgo : ∀ (X : Option (Int32 × ck_S)), (if how = 0 then (if what = (-1) then some (1, ((upd (upd σs.1 12 (ρ' 0)) 13 (-2)), σs.2.1, σs.2.2.1, eset E t (tC ρ'), σs.2.2.2.2)) else (if (ρ' 1 &&& ((1 : Int32) <<< (what &&& 31))) = 0 then some (1, ((upd (upd σs.1 12 (ρ' 0)) 13 (-2)), σs.2.1, σs.2.2.1, eset E t (tC ρ'), σs.2.2.2.2)) else some (0, (σs.1, σs.2.1, σs.2.2.1, eset E t (tC ρ'), σs.2.2.2.2)))) else (if what = (-1) then some (0, (σs.1, σs.2.1, σs.2.2.1, eset E t (tC ρ'), σs.2.2.2.2)) else some (2, (σs.1, σs.2.1, σs.2.2.1, eset E t (tC ρ'), σs.2.2.2.2)))) = X → sp_Sk_goAlone (Int32.ofNat m) set σs = X := by
    intro X hX
    unfold sp_Sk_goAlone
    rw [if_pos (gi_of hm (by decide)), h0]
    simp only
    rw [hE, if_pos c3, h9, hcl, a2]
    simp only
    rw [h0, h11]
    simp only
    rw [d1, d2]
    simp only
    exact hX
  have hrf : ∀ (X : Option (Int32 × gm_S)), (if how = 0 then (if what = (-1) then some (0, ((upd (upd (upd σ'.1 58 (σ'.1 42)) 59 0) 57 1), σ'.2)) else (if (((σ'.1 43) >>> (what &&& 31)) &&& 1) = 1 then some (1, ((upd (upd (upd σ'.1 58 (σ'.1 42)) 59 0) 57 1), σ'.2)) else some (0, ((upd (upd (upd σ'.1 58 (σ'.1 42)) 59 0) 57 1), σ'.2)))) else (if what = (-1) then some (1, ((upd (upd (upd σ'.1 58 (σ'.1 42)) 59 0) 57 0), σ'.2)) else some (0, ((upd (upd (upd σ'.1 58 (σ'.1 42)) 59 0) 57 0), σ'.2)))) = X → sp_Md_isIt (Int32.ofNat k) what (-1) (Int32.ofNat m) set σ = X := by
    intro X hX
    unfold sp_Md_isIt
    rw [hix, if_pos (gi_of (by omega : 2 * m < 600) (by decide)), hcl2, hseen, a1]
    simp only
    simp only [if_true]
    exact hX
  have hk1 : ∀ v : Int32, rK σ ((upd (upd (upd σ'.1 58 (σ'.1 42)) 59 0) 57 v, σ'.2) : gm_S) := by
    intro v
    refine ⟨fun j hj h57 h58 h59 => ?_, a5⟩
    show upd (upd (upd σ'.1 58 (σ'.1 42)) 59 0) 57 v j = _
    rw [upd_ne h57, upd_ne h59, upd_ne h58, a4 j hj]
  have hr1 : ∀ j, j ≠ 12 → j ≠ 13 → upd (upd σs.1 12 (ρ' 0)) 13 (-2) j = σs.1 j := fun j h12 h13 => by rw [upd_ne h13, upd_ne h12]
  by_cases hh : how = 0
  · obtain ⟨b1, b2, b3⟩ := a6 hh
    have hlead : (((upd (upd (upd σ'.1 58 (σ'.1 42)) 59 0) 57 1, σ'.2) : gm_S).1 57 = 1 ∧ ((upd (upd (upd σ'.1 58 (σ'.1 42)) 59 0) 57 1, σ'.2) : gm_S).1 58 = (upd (upd σs.1 12 (ρ' 0)) 13 (-2)) 12 ∧ ((upd (upd (upd σ'.1 58 (σ'.1 42)) 59 0) 57 1, σ'.2) : gm_S).1 59 = 0 ∧ (upd (upd σs.1 12 (ρ' 0)) 13 (-2)) 13 = -2 ∧ sOK (wI σ.2 k) ((upd (upd σs.1 12 (ρ' 0)) 13 (-2)) 12)) := by
      refine ⟨rfl, ?_, rfl, rfl, ?_⟩
      · show σ'.1 42 = ρ' 0
        exact b1.symm
      · show sOK _ (ρ' 0)
        rw [b1]
        exact b3
    by_cases hw1 : what = -1
    · refine ⟨1, _, _, ρ', by omega, hrf _ ?_, hgo _ ?_, hk1 1, hr1, fun _ => hlead, fun h => by omega⟩
      · rw [if_pos hh, if_pos hw1]; rfl
      · rw [if_pos hh, if_pos hw1]; rfl
    · obtain ⟨w, hw26, hww⟩ := hw.resolve_left hw1
      have hbit : (((σ'.1 43) >>> (what &&& 31)) &&& 1 = 1) ↔ bt (σ'.1 43) w = true := by rw [hww]; exact shr_bit (by omega)
      have hbit2 : (ρ' 1 &&& ((1 : Int32) <<< (what &&& 31)) = 0) ↔ bt (σ'.1 43) w = false := by
        rw [b2, hww]
        exact nz_eq0 (β := fun _ => (1 : Int32) <<< (Int32.ofNat w &&& 31)) (j := 0) |>.trans (by rw [nz_p2 (b := w) (by omega) rfl])
      cases hb : bt (σ'.1 43) w with
      | true =>
        refine ⟨0, _, _, ρ', by omega, hrf _ ?_, hgo _ ?_, hk1 1, fun _ _ _ => rfl, fun h => by omega, fun h => by omega⟩
        · rw [if_pos hh, if_neg hw1, if_pos (hbit.mpr hb)]; rfl
        · rw [if_pos hh, if_neg hw1, if_neg (fun e => by rw [hbit2.mp e] at hb; cases hb)]; rfl
      | false =>
        refine ⟨1, _, _, ρ', by omega, hrf _ ?_, hgo _ ?_, hk1 1, hr1, fun _ => hlead, fun h => by omega⟩
        · rw [if_pos hh, if_neg hw1, if_neg (fun e => by rw [hbit.mp e] at hb; cases hb)]; rfl
        · rw [if_pos hh, if_neg hw1, if_pos (hbit2.mpr hb)]; rfl
  · by_cases hw1 : what = -1
    · refine ⟨0, _, _, ρ', by omega, hrf _ ?_, hgo _ ?_, hk1 0, fun _ _ _ => rfl, fun h => by omega, fun h => by omega⟩
      · rw [if_neg hh, if_pos hw1]; rfl
      · rw [if_neg hh, if_pos hw1]; rfl
    · refine ⟨2, _, _, ρ', by omega, hrf _ ?_, hgo _ ?_, hk1 0, fun _ _ _ => rfl, fun h => by omega, fun _ => rfl⟩
      · rw [if_neg hh, if_neg hw1]; rfl
      · rw [if_neg hh, if_neg hw1]; rfl
theorem isIt2 {k2 P2 : Nat} (h : zPR lim σ.2 E k P) (h2 : zPR lim σ.2 E k2 P2) (hE : σs.2.2.2.1 = E) (h0 : σs.2.2.1 0 = some t) (h9 : σs.2.2.1 9 = some P) (h10 : σs.2.2.1 10 = some P2) (ht : E t = some (tC ρ)) {m : Nat} (hm : m < 300) {set : Int32} (hseen : σ.2 52 (2 * m) = σs.2.1 1 m) (hseen2 : σ.2 52 (2 * m + 1) = σs.2.1 2 m) (hst : sOK (wI σ.2 k) (σs.2.1 1 m)) (hst2 : sOK (wI σ.2 k2) (σs.2.1 2 m)) {ni : Nat} (hni : σ.2 12 k = Int32.ofNat ni) (hni2 : σ.2 12 k2 = Int32.ofNat ni) (hn26 : ni ≤ 26) (hset : ∀ q, bt set q = true → q < ni) (hk2 : k2 < 6) :
    ∃ (o : Nat) (σ' : gm_S) (r' : Nat → Int32) (ρ' : Nat → Int32), o < 3 ∧ sp_Md_isIt (Int32.ofNat k) (-1) (Int32.ofNat k2) (Int32.ofNat m) set σ = some (if o = 0 then 1 else 0, σ') ∧ sp_Sk_goBoth (Int32.ofNat m) set σs = some (Int32.ofNat o, (r', σs.2.1, σs.2.2.1, eset E t (tC ρ'), σs.2.2.2.2)) ∧ rK σ σ' ∧ (∀ j, j ≠ 12 → j ≠ 13 → r' j = σs.1 j) ∧ (o = 1 → σ'.1 57 = 1 ∧ σ'.1 58 = r' 12 ∧ σ'.1 59 = r' 13 ∧ sOK (wI σ.2 k) (r' 12) ∧ sOK (wI σ.2 k2) (r' 13)) ∧ (o = 2 → σ'.1 57 = 0) := by
  obtain ⟨how, σ1, ρ1, a1, a2, a3, a4, a5, a6⟩ := PR_tk (st := σs.2.1 1 m) h σs hE ht hst hni hn26 hset
  have hix : (2 : Int32) * Int32.ofNat m = Int32.ofNat (2 * m) := by rw [show (2 : Int32) = Int32.ofNat 2 from rfl, ofN_mul]
  have hcl : (Int32.ofNat m).toNatClampNeg = m := cl_of (by omega)
  have hcl2 : (Int32.ofNat (2 * m)).toNatClampNeg = 2 * m := cl_of (by omega)
  have hcl3 : (Int32.ofNat (2 * m + 1)).toNatClampNeg = 2 * m + 1 := cl_of (by omega)
  obtain ⟨c1, c2, c3⟩ := tC_0 ht
  obtain ⟨d1, d2, d3⟩ := tC_0 (E := eset E t (tC ρ1)) (t := t) (ρ := ρ1) eset_eq
  have ht1 : eset E t (tC ρ1) t = some (tC ρ1) := eset_eq
  have hee : ∀ c, eset (eset E t (tC ρ1)) t c = eset E t c := fun c => by
    funext q
    unfold eset
    by_cases hq : q = t <;> simp [hq]
  have second : ∀ (σr : gm_S), (∀ j, j ≠ 38 → σr.2 j = σ.2 j) → ∃ how2 σ2 ρ2, sp_Md_work (Int32.ofNat k2) (σ.2 52 (2 * m + 1)) set σr = some (how2, σ2) ∧ (∀ rr : Nat → Int32, sp_tkE t (some P2) (σs.2.1 2 m) set (rr, σs.2.1, σs.2.2.1, eset E t (tC ρ1), σs.2.2.2.2) = some (how2, (rr, σs.2.1, σs.2.2.1, eset E t (tC ρ2), σs.2.2.2.2))) ∧ (how2 = 0 ∨ how2 = 1 ∨ how2 = 2) ∧ (∀ j, (j < 39 ∨ 43 < j) → σ2.1 j = σr.1 j) ∧ (∀ j, j ≠ 38 → σ2.2 j = σr.2 j) ∧ (how2 = 0 → ρ2 0 = σ2.1 42 ∧ ρ2 1 = σ2.1 43 ∧ sOK (wI σ.2 k2) (σ2.1 42)) := by
    intro σr hσr
    have hp : zPR lim σr.2 (eset E t (tC ρ1)) k2 P2 := PR_fr (tC_F (by decide) ht) (tC_F (by decide) ht) (tC_Fa ht) (fun j hj => hσr j (by omega)) h2
    have hwI : σr.2 25 (σr.2 16 k2).toNatClampNeg = wI σ.2 k2 := by
      unfold wI
      rw [hσr 25 (by decide), hσr 16 (by decide)]
    rw [hseen2]
    obtain ⟨how2, σ2, ρ2, b1, b2, b3, b4, b5, b6⟩ := PR_tk (st := σs.2.1 2 m) hp (σs.1, σs.2.1, σs.2.2.1, eset E t (tC ρ1), σs.2.2.2.2) rfl ht1 (by rw [hwI]; exact hst2) (by rw [hσr 12 (by decide)]; exact hni2) hn26 hset
    refine ⟨how2, σ2, ρ2, b1, fun rr => ?_, b3, b4, b5, fun e => by have := b6 e; rw [hwI] at this; exact this⟩
    rw [hee] at b2
    unfold sp_tkE at b2 ⊢
    simp only at b2 ⊢
    split at b2
    · cases b2
    · next ρx hx =>
      split at b2
      · cases b2
      · next rx hrx =>
        injection b2 with b2
        have q1 : rx.1 = how2 := congrArg (fun z => z.1) b2
        have q2 := congrArg (fun z => z.2.2.2.2.1) b2
        have q3 := congrArg (fun z => z.2.2.2.2.2) b2
        simp only at q2 q3
        rw [q1, q2, q3]
  have hrf : ∀ (X : Option (Int32 × gm_S)), (if how = 0 then (match sp_Md_work (Int32.ofNat k2) (σ.2 52 (2 * m + 1)) set ((upd (upd (upd σ1.1 58 (σ1.1 42)) 59 0) 57 1), σ1.2) with
      | none => none
      | some y17 => (if y17.1 = 0 then (if (y17.2.1 43) = (σ1.1 43) then some (0, ((upd y17.2.1 59 (y17.2.1 42)), y17.2.2)) else some (1, ((upd y17.2.1 59 (y17.2.1 42)), y17.2.2))) else some (1, ((upd y17.2.1 59 (y17.2.1 42)), y17.2.2)))) else (match sp_Md_work (Int32.ofNat k2) (σ.2 52 (2 * m + 1)) set ((upd (upd (upd σ1.1 58 (σ1.1 42)) 59 0) 57 0), σ1.2) with
      | none => none
      | some y6 => (if y6.1 = 0 then some (1, ((upd y6.2.1 59 (y6.2.1 42)), y6.2.2)) else some (0, ((upd y6.2.1 59 (y6.2.1 42)), y6.2.2))))) = X → sp_Md_isIt (Int32.ofNat k) (-1) (Int32.ofNat k2) (Int32.ofNat m) set σ = X := by
    intro X hX
    unfold sp_Md_isIt
    have hk2n : ¬ (Int32.ofNat k2 = -1) := fun e => by
      have h1 : (Int32.ofNat k2).toInt = k2 := Int32.toInt_ofNat_of_lt (by omega)
      rw [e, show (-1 : Int32).toInt = -1 from rfl] at h1
      omega
    rw [hix, if_pos (gi_of (by omega : 2 * m < 600) (by decide)), hcl2, hseen, a1]
    simp only
    rw [if_neg hk2n, if_neg hk2n, ofN_s, if_pos (gi_of (by omega : 2 * m + 1 < 600) (by decide)), if_pos (gi_of (by omega : 2 * m + 1 < 600) (by decide)), hcl3, a5 52 (by decide)]
    exact hX
  have hgo : ∀ (X : Option (Int32 × ck_S)) (how2 : Int32) (ρ2 : Nat → Int32), (∀ rr : Nat → Int32, sp_tkE t (some P2) (σs.2.1 2 m) set (rr, σs.2.1, σs.2.2.1, eset E t (tC ρ1), σs.2.2.2.2) = some (how2, (rr, σs.2.1, σs.2.2.1, eset E t (tC ρ2), σs.2.2.2.2))) → (if how = 0 then (if how2 = 0 then (if ρ1 1 = ρ2 1 then some (1, ((upd (upd σs.1 12 (ρ1 0)) 13 (ρ2 0)), σs.2.1, σs.2.2.1, eset E t (tC ρ2), σs.2.2.2.2)) else some (0, ((upd (upd σs.1 12 (ρ1 0)) 13 (ρ2 0)), σs.2.1, σs.2.2.1, eset E t (tC ρ2), σs.2.2.2.2))) else some (0, ((upd (upd σs.1 12 (ρ1 0)) 13 (ρ2 0)), σs.2.1, σs.2.2.1, eset E t (tC ρ2), σs.2.2.2.2))) else (if how2 = 0 then some (0, ((upd (upd σs.1 12 (ρ1 0)) 13 (ρ2 0)), σs.2.1, σs.2.2.1, eset E t (tC ρ2), σs.2.2.2.2)) else some (2, ((upd (upd σs.1 12 (ρ1 0)) 13 (ρ2 0)), σs.2.1, σs.2.2.1, eset E t (tC ρ2), σs.2.2.2.2)))) = X → sp_Sk_goBoth (Int32.ofNat m) set σs = X := by
    intro X how2 ρ2 hb2 hX
    obtain ⟨f1, f2, f3⟩ := tC_0 (E := eset E t (tC ρ2)) (t := t) (ρ := ρ2) eset_eq
    unfold sp_Sk_goBoth
    rw [if_pos (gi_of hm (by decide)), h0]
    simp only
    rw [hE, if_pos c3, h9, hcl, a2]
    simp only
    rw [h0]
    simp only
    rw [d2, d1]
    simp only
    rw [if_pos d3, if_pos d3, h10]
    have hb2' := hb2 (upd σs.1 12 (ρ1 0))
    rw [hb2']
    simp only
    rw [h0]
    simp only
    rw [f1, f2]
    simp only
    exact hX
  by_cases hh : how = 0
  · obtain ⟨b1, b2, b3⟩ := a6 hh
    obtain ⟨how2, σ2, ρ2, g1, g2, g3, g4, g5, g6⟩ := second ((upd (upd (upd σ1.1 58 (σ1.1 42)) 59 0) 57 1), σ1.2) a5
    have hkk : rK σ ((upd σ2.1 59 (σ2.1 42), σ2.2) : gm_S) := by
      refine ⟨fun j hj h57 h58 h59 => ?_, fun j hj => (g5 j hj).trans (a5 j hj)⟩
      show upd σ2.1 59 (σ2.1 42) j = _
      rw [upd_ne h59, g4 j hj]
      show upd (upd (upd σ1.1 58 (σ1.1 42)) 59 0) 57 1 j = _
      rw [upd_ne h57, upd_ne h59, upd_ne h58, a4 j hj]
    have hr1 : ∀ j, j ≠ 12 → j ≠ 13 → upd (upd σs.1 12 (ρ1 0)) 13 (ρ2 0) j = σs.1 j := fun j h12 h13 => by rw [upd_ne h13, upd_ne h12]
    by_cases hh2 : how2 = 0
    · obtain ⟨e1, e2, e3⟩ := g6 hh2
      by_cases ho : σ2.1 43 = σ1.1 43
      · refine ⟨1, _, _, ρ2, by omega, hrf _ ?_, hgo _ how2 ρ2 g2 ?_, hkk, hr1, fun _ => ⟨?_, ?_, ?_, ?_, ?_⟩, fun h => by omega⟩
        · rw [if_pos hh, g1]
          simp only
          rw [if_pos hh2, if_pos ho]; rfl
        · rw [if_pos hh, if_pos hh2, if_pos (by rw [b2, e2, ho])]; rfl
        · show upd σ2.1 59 (σ2.1 42) 57 = 1
          rw [upd_ne (by decide), g4 57 (by omega)]
          rfl
        · show upd σ2.1 59 (σ2.1 42) 58 = ρ1 0
          rw [upd_ne (by decide), g4 58 (by omega), b1]
          rfl
        · show σ2.1 42 = ρ2 0
          exact e1.symm
        · show sOK _ (ρ1 0)
          rw [b1]
          exact b3
        · show sOK _ (ρ2 0)
          rw [e1]
          exact e3
      · refine ⟨0, _, _, ρ2, by omega, hrf _ ?_, hgo _ how2 ρ2 g2 ?_, hkk, hr1, fun h => by omega, fun h => by omega⟩
        · rw [if_pos hh, g1]
          simp only
          rw [if_pos hh2, if_neg ho]; rfl
        · rw [if_pos hh, if_pos hh2, if_neg (by rw [b2, e2]; exact fun e => ho e.symm)]; rfl
    · refine ⟨0, _, _, ρ2, by omega, hrf _ ?_, hgo _ how2 ρ2 g2 ?_, hkk, hr1, fun h => by omega, fun h => by omega⟩
      · rw [if_pos hh, g1]
        simp only
        rw [if_neg hh2]; rfl
      · rw [if_pos hh, if_neg hh2]; rfl
  · obtain ⟨how2, σ2, ρ2, g1, g2, g3, g4, g5, g6⟩ := second ((upd (upd (upd σ1.1 58 (σ1.1 42)) 59 0) 57 0), σ1.2) a5
    have hkk : rK σ ((upd σ2.1 59 (σ2.1 42), σ2.2) : gm_S) := by
      refine ⟨fun j hj h57 h58 h59 => ?_, fun j hj => (g5 j hj).trans (a5 j hj)⟩
      show upd σ2.1 59 (σ2.1 42) j = _
      rw [upd_ne h59, g4 j hj]
      show upd (upd (upd σ1.1 58 (σ1.1 42)) 59 0) 57 0 j = _
      rw [upd_ne h57, upd_ne h59, upd_ne h58, a4 j hj]
    have hr1 : ∀ j, j ≠ 12 → j ≠ 13 → upd (upd σs.1 12 (ρ1 0)) 13 (ρ2 0) j = σs.1 j := fun j h12 h13 => by rw [upd_ne h13, upd_ne h12]
    by_cases hh2 : how2 = 0
    · refine ⟨0, _, _, ρ2, by omega, hrf _ ?_, hgo _ how2 ρ2 g2 ?_, hkk, hr1, fun h => by omega, fun h => by omega⟩
      · rw [if_neg hh, g1]
        simp only
        rw [if_pos hh2]; rfl
      · rw [if_neg hh, if_pos hh2]; rfl
    · refine ⟨2, _, _, ρ2, by omega, hrf _ ?_, hgo _ how2 ρ2 g2 ?_, hkk, hr1, fun h => by omega, fun _ => ?_⟩
      · rw [if_neg hh, g1]
        simp only
        rw [if_neg hh2]; rfl
      · rw [if_neg hh, if_neg hh2]; rfl
      · show upd σ2.1 59 (σ2.1 42) 57 = 0
        rw [upd_ne (by decide), g4 57 (by omega)]
        rfl
end S1
