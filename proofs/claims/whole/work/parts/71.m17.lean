section P4
variable {T : mw_A} {S : Int32} {E : ck_E} {β : Nat → Int32} {f : mw_F} {g : gw_G} {G : tp_G} {Γ : Nat → Bool} {th mi : Int32} {K : Nat → Int32}
theorem ofN_ne0 {k : Nat} (hk : k < 100) (h0 : k ≠ 0) : Int32.ofNat k ≠ 0 := fun e => by
  have h1 : (Int32.ofNat k).toInt = k := Int32.toInt_ofNat_of_lt (by omega)
  rw [e, show (0 : Int32).toInt = 0 from rfl] at h1
  omega
theorem ps_4 {x y : kd_R} {t : Nat} (hp : gi x.1.1 2600 = true) (hk : T 20 x.1.1.toNatClampNeg = 4) (e0 : egI E x.1.2 2 0 = some 4) (hx : T 23 x.1.1.toNatClampNeg = y.1.1) (e2 : egR E x.1.2 2 2 = some (some y.1.2)) (hst : T 25 x.1.1.toNatClampNeg &&& S ≠ 0 → T 25 y.1.1.toNatClampNeg &&& S ≠ 0) (hz : pz [y] x.2.2.2.1 x.2.2.2.2) (ht : t < 20) (hy0 : bt (T 26 y.1.1.toNatClampNeg) 0 = false) (ho : T 26 x.1.1.toNatClampNeg = T 26 y.1.1.toNatClampNeg &&& (-2)) (hP : zPS T S E β g G Γ t y) : zPS T S E β (gwF T S f g) (sp_Tk_perform G) Γ t x := by
  obtain ⟨hu, hv⟩ := hz
  have hv' : y.2.2.2.2 = x.2.2.2.2 := hv
  intro K th mi hK hkn res b hrb
  obtain ⟨hC0, hR0, hJ0⟩ := hP K th mi hK hkn 0 1 (Or.inl ⟨rfl, rfl⟩)
  have hcl : ∀ (σ : ck_S), σ.2.2.2.1 = E → sp_Tk_perform G (some x.1.2) b σ = sp_Tk_performLoop G (some x.1.2) b σ := by
    intro σ hE
    unfold sp_Tk_perform
    simp only [hE, e0]
    simp
    cases sp_Tk_performLoop G (some x.1.2) b σ <;> rfl
  have hgo : ∀ s fl, gwF T S f g x.1.1 res K s fl = gw_lp g y.1.1 res K s fl := by
    intro s fl
    rw [gwF_p hp]
    unfold gw_go
    simp only [hk, hx]
    simp
  rcases hrb with ⟨hr, hb⟩ | ⟨hr, hb, hs⟩
  · subst hr hb
    have hc1 : ∀ (σ : ck_S), σ.2.2.2.1 = E → sp_Tk_perform G (some x.1.2) 1 σ = G (some y.1.2) 1 σ := by
      intro σ hE
      rw [hcl σ hE]
      unfold sp_Tk_performLoop
      simp only [hE, e2]
      simp
      cases G (some y.1.2) 1 σ <;> rfl
    refine ⟨fun σ hs h8 => ?_, fun s fl hf => ?_, fun s σ hs h8 h7 => ?_⟩
    · rw [hc1 σ hs.1]; exact hC0 σ hs h8
    · rw [hgo]
      unfold gw_lp
      obtain ⟨c, s', fl', a1, a2, a3⟩ := hR0 s fl hf
      rw [a1]
      simp only
      by_cases h0 : c = 0
      · rw [if_pos h0]
        by_cases h1 : fl' = 0
        · rw [if_pos h1]
          obtain ⟨c2, s2, fl2, b1, b2, b3⟩ := hR0 s' fl' a2
          exact ⟨c2, s2, fl2, b1, b2, fun h => b3 (a3 h)⟩
        · rw [if_neg h1]; exact ⟨c, s', fl', rfl, a2, a3⟩
      · rw [if_neg h0]; exact ⟨c, s', fl', rfl, a2, a3⟩
    · rw [hc1 σ hs.1, hgo]
      unfold gw_lp
      obtain ⟨c, s', fl', c', m, cc, s7, o, a1, a2, a3⟩ := hJ0 s σ hs h8 h7
      rw [a1, a2]
      simp only
      rcases a3 with ⟨b1, b2, b3, b4, k, d1, d2, d3, d4, d5⟩ | ⟨b1, b2⟩
      · have hk0 : k ≠ 0 := fun e => by
          have := d5 rfl
          rw [e, hy0] at this
          cases this
        have hc0 : c ≠ 0 := by rw [d1]; exact ofN_ne0 (by omega) hk0
        rw [if_neg hc0]
        refine ⟨c, s', fl', c', m, cc, s7, o, rfl, rfl, Or.inl ⟨b1, b2, b3, b4, k, d1, d2, fun i hi => d3 i (by omega), fun h => ?_, fun _ => ?_⟩⟩
        · obtain ⟨i, i1, i2, i3⟩ := d4 h
          exact ⟨i, by omega, by omega, i3⟩
        · rw [ho, bt_and, d5 rfl, bt_m2]
          have : k < 32 := by omega
          simp [this, hk0]
      · have : ∃ c1 s1, ((if c = 0 then (if fl' = 0 then g y.1.1 0 K s' fl' else some (c, s', fl')) else some (c, s', fl')) : Option gw_V) = some (c1, s1, 2) := by
          by_cases h0 : c = 0
          · rw [if_pos h0, if_neg (by rw [b1]; decide), b1]; exact ⟨_, _, rfl⟩
          · rw [if_neg h0, b1]; exact ⟨_, _, rfl⟩
        obtain ⟨c1, s1, r1⟩ := this
        exact ⟨c1, s1, 2, c', m, cc, s7, o, r1, rfl, Or.inr ⟨rfl, b2⟩⟩
  · subst hr hb
    obtain ⟨hC, hR, hJ⟩ := hP K th mi hK hkn 1 0 (Or.inr ⟨rfl, rfl, hst hs⟩)
    have hc1 : ∀ (σ : ck_S) (c m cc s o : Int32), σ.2.2.2.1 = E → G (some y.1.2) 0 σ = some (c, (zu4 σ.1 m cc s o, σ.2)) → sp_Tk_perform G (some x.1.2) 0 σ = (if c = 0 then G (some y.1.2) 1 (zu4 σ.1 m cc s o, σ.2) else some (c, (zu4 σ.1 m cc s o, σ.2))) := by
      intro σ c m cc s o hE hg
      rw [hcl σ hE]
      unfold sp_Tk_performLoop
      simp only [hE, e2, hg]
      rw [if_pos trivial]
      by_cases h0 : c = 0
      · rw [if_pos h0, if_pos h0]
        cases G (some y.1.2) 1 (zu4 σ.1 m cc s o, σ.2) <;> rfl
      · rw [if_neg h0, if_neg h0]
    refine ⟨fun σ hs h8 => ?_, fun s fl hf => ?_, fun s σ hs h8 h7 => ?_⟩
    · obtain ⟨c, m, cc, s, o, a1, a2, a3⟩ := hC σ hs h8
      rw [hc1 σ c m cc s o hs.1 a1]
      by_cases h0 : c = 0
      · rw [if_pos h0]
        obtain ⟨c2, m2, cc2, s2, o2, b1, b2, b3⟩ := hC0 (zu4 σ.1 m cc s o, σ.2) (sO_u4 hs) a2
        refine ⟨c2, m2, cc2, s2, o2, ?_, b2, fun h => b3 (a3 h)⟩
        rw [b1, u4_u4]
      · rw [if_neg h0]; exact ⟨c, m, cc, s, o, rfl, a2, a3⟩
    · rw [hgo]
      unfold gw_lp
      obtain ⟨c, s', fl', a1, a2, a3⟩ := hR s fl hf
      rw [a1]
      simp only
      by_cases h0 : c = 0
      · rw [if_pos h0]
        by_cases h1 : fl' = 0
        · rw [if_pos h1]
          obtain ⟨c2, s2, fl2, b1, b2, b3⟩ := hR0 s' fl' a2
          exact ⟨c2, s2, fl2, b1, b2, fun h => b3 (a3 h)⟩
        · rw [if_neg h1]; exact ⟨c, s', fl', rfl, a2, a3⟩
      · rw [if_neg h0]; exact ⟨c, s', fl', rfl, a2, a3⟩
    · obtain ⟨c, s', fl', c', m, cc, s7, o, a1, a2, a3⟩ := hJ s σ hs h8 h7
      rw [hc1 σ c' m cc s7 o hs.1 a2, hgo]
      unfold gw_lp
      rw [a1]
      simp only
      rcases a3 with ⟨b1, b2, b3, b4, k, d1, d2, d3, d4, d5⟩ | ⟨b1, b2⟩
      · subst b1 b2 b3 b4
        by_cases h0 : c' = 0
        · rw [if_pos h0, if_pos h0, if_pos rfl]
          obtain ⟨c2, s2, fl2, c3, m2, cc2, s3, o2, q1, q2, q3⟩ := hJ0 s7 (zu4 σ.1 m cc s7 0, σ.2) (sO_u4 hs) rfl rfl
          rw [q1, q2, u4_u4]
          refine ⟨c2, s2, fl2, c3, m2, cc2, s3, o2, rfl, rfl, ?_⟩
          rcases q3 with ⟨w1, w2, w3, zw4, kk, v1, v2, v3, v4, v5⟩ | w
          · refine Or.inl ⟨w1, w2, w3, zw4, kk, v1, v2, fun i hi => ?_, fun h => ?_, fun h => absurd h (by decide)⟩
            · rw [v3 i (by omega), d3 i (by omega)]
            · obtain ⟨i, i1, i2, i3⟩ := v4 h
              exact ⟨i, by omega, by omega, i3⟩
          · exact Or.inr w
        · rw [if_neg h0, if_neg h0]
          refine ⟨_, _, _, _, _, _, _, _, rfl, rfl, Or.inl ⟨rfl, rfl, rfl, rfl, k, d1, d2, fun i hi => d3 i (by omega), fun h => ?_, fun h => absurd h (by decide)⟩⟩
          obtain ⟨i, i1, i2, i3⟩ := d4 h
          exact ⟨i, by omega, by omega, i3⟩
      · subst b1 b2
        have hr : ∃ c1 s1, ((if c = 0 then (if (2 : Int32) = 0 then g y.1.1 0 K s' 2 else some (c, s', 2)) else some (c, s', 2)) : Option gw_V) = some (c1, s1, 2) := by
          by_cases h0 : c = 0
          · rw [if_pos h0, if_neg (by decide)]; exact ⟨_, _, rfl⟩
          · rw [if_neg h0]; exact ⟨_, _, rfl⟩
        have hq : ∃ c1 m1 cc1 s1, (if c' = 0 then G (some y.1.2) 1 (zu4 σ.1 m cc s7 1, σ.2) else some (c', (zu4 σ.1 m cc s7 1, σ.2))) = some (c1, (zu4 σ.1 m1 cc1 s1 1, σ.2)) := by
          by_cases h0 : c' = 0
          · rw [if_pos h0]
            obtain ⟨c2, m2, cc2, s2, o2, b1, b2, b3⟩ := hC0 (zu4 σ.1 m cc s7 1, σ.2) (sO_u4 hs) (Or.inr rfl)
            have := b3 rfl
            subst this
            exact ⟨c2, m2, cc2, s2, by rw [b1, u4_u4]⟩
          · rw [if_neg h0]; exact ⟨_, _, _, _, rfl⟩
        obtain ⟨c1, s1, r1⟩ := hr
        obtain ⟨c2, m2, cc2, s2, r2⟩ := hq
        exact ⟨c1, s1, 2, c2, m2, cc2, s2, 1, r1, r2, Or.inr ⟨rfl, rfl⟩⟩
theorem ps_8 {x y : kd_R} {t j : Nat} (hp : gi x.1.1 2600 = true) (hk : T 20 x.1.1.toNatClampNeg = 8) (e0 : egI E x.1.2 2 0 = some 8) (hj : j < 26) (hΓ : Γ j = false) (hl : T 21 x.1.1.toNatClampNeg = Int32.ofNat j) (e1 : egI E x.1.2 2 1 = some (β j)) (hO : bO β) (hb0 : β j ≠ 0) (hx : T 23 x.1.1.toNatClampNeg = y.1.1) (e2 : egR E x.1.2 2 2 = some (some y.1.2)) (hst : T 25 x.1.1.toNatClampNeg &&& S ≠ 0 → T 25 y.1.1.toNatClampNeg &&& S ≠ 0) (hz : pz [y] x.2.2.2.1 x.2.2.2.2) (ho : T 26 x.1.1.toNatClampNeg = T 26 y.1.1.toNatClampNeg) (hW : WS T S E β f (tw 200) (zext Γ j) y.1.1 y.1.2) (hP : zPS T S E β g G (zext Γ j) t y) : zPS T S E β (gwF T S f g) (sp_Tk_perform G) Γ t x := by
  have hgi : gi (Int32.ofNat j) 26 = true := gi_of hj (by decide)
  have hcj : (Int32.ofNat j).toNatClampNeg = j := cl_of (by omega)
  obtain ⟨hu, hv⟩ := hz
  have hv' : y.2.2.2.2 = x.2.2.2.2 := hv
  intro K th mi hK hkn res b hrb
  have hrb' : (res = 0 ∧ b = 1 ∨ res = 1 ∧ b = 0 ∧ T 25 y.1.1.toNatClampNeg &&& S ≠ 0) := by
    rcases hrb with h | ⟨h1, h2, h3⟩
    · exact Or.inl h
    · exact Or.inr ⟨h1, h2, hst h3⟩
  obtain ⟨ht, hi⟩ := (hK j hj).2 hΓ
  have ht0 : th &&& β j = 0 := nz_eq0.mpr ht
  have hi0 : mi &&& β j = 0 := nz_eq0.mpr hi
  obtain ⟨⟨xm, xc, f1, f2, f3, f4⟩, _⟩ := hW _ th mi (kn_0 hK hΓ) res b hrb'
  have hkn' : ∀ v : Int32, v ≠ 0 → ∀ i, i < 26 → zext Γ j i = true → upd K j v i ≠ 0 := by
    intro v hv i hi he
    by_cases h : i = j
    · rw [h, upd_eq]; exact hv
    · rw [upd_ne h]
      refine hkn i hi ?_
      unfold zext at he
      rw [if_neg h] at he
      exact he
  have hlk : mw_lk T f x.1.1 res K = some (upd K j (if sg xm j = true then 1 else if sg xc j = true then 0 else 2)) := by
    unfold mw_lk
    simp only [hp, hl, hgi, hcj, hx, f1, f2, hasS_eq hj]
    cases sg xm j <;> cases sg xc j <;> simp
  have hgo : ∀ s fl, gwF T S f g x.1.1 res K s fl = gw_lc T f g x.1.1 res K s fl := by
    intro s fl
    rw [gwF_p hp]
    unfold gw_go
    simp only [hk]
    simp
  have hgl : ∀ s fl, gw_lc T f g x.1.1 res K s fl = (if (if sg xm j = true then (1 : Int32) else if sg xc j = true then 0 else 2) = 0 then some (0, s, 2) else g y.1.1 res (upd K j (if sg xm j = true then 1 else if sg xc j = true then 0 else 2)) s fl) := by
    intro s fl
    unfold gw_lc
    rw [hlk]
    simp only [hl, hcj, hx, upd_eq]
  have hcl : ∀ (σ : ck_S), σ.2.2.2.1 = E → sp_Tk_perform G (some x.1.2) b σ = sp_Tk_performLocal G (some x.1.2) b σ := by
    intro σ hE
    unfold sp_Tk_perform
    simp only [hE, e0]
    simp
    cases sp_Tk_performLocal G (some x.1.2) b σ <;> rfl
  have hcl2 : ∀ σ : ck_S, sO E S th mi σ → ∃ m c, sp_Tk_performLocal G (some x.1.2) b σ = (match sp_Tk_learns (β j) (upd (upd σ.1 5 m) 6 c, σ.2) with
      | none => none
      | some y5 => (if y5.1 = 0 then some (0, (upd y5.2.1 8 1, y5.2.2)) else (match G (some y.1.2) b y5.2 with
        | none => none
        | some y8 => (match egI y8.2.2.2.2.1 x.1.2 2 1 with
          | none => none
          | some y9 => (match sp_Tk_forget y9 y8.2 with
            | none => none
            | some y10 => some (y8.1, y10)))))) ∧ (∀ i, i < 26 → nz β m i = sg xm i) ∧ (∀ i, i < 26 → nz β c i = sg xc i) := by
    intro σ hs
    obtain ⟨m, c, r1, r2, r3⟩ := f4 (upd (upd σ.1 5 0) 6 0, σ.2) hs.1 hs.2.1 hs.2.2.1 hs.2.2.2
    have hwa : sp_Tk_weighAlone (tw 200) (some y.1.2) b 1 σ = some (q_Codes_pair (co xm) (co xc), (upd (upd σ.1 5 m) 6 c, σ.2)) := by
      unfold sp_Tk_weighAlone
      have : tw 200 (some y.1.2) b 1 (upd (upd σ.1 5 0) 6 0, σ.2.1, σ.2.2.1, σ.2.2.2.1, σ.2.2.2.2.1, σ.2.2.2.2.2) = some (q_Codes_pair (co xm) (co xc), (upd (upd σ.1 5 m) 6 c, σ.2)) := by
        rw [up56] at r1
        exact r1
      rw [this]
    refine ⟨m, c, ?_, fun i hi => ?_, fun i hi => ?_⟩
    · unfold sp_Tk_performLocal
      simp only [hs.1, e2, hwa, e1]
      have hln : ∀ q, sp_Tk_learns (β j) (upd (upd σ.1 5 m) 6 c, σ.2) = some q → q.2.2 = σ.2 := by
        intro q hq
        unfold sp_Tk_learns at hq
        (repeat' split at hq) <;> cases hq <;> rfl
      cases hlx : sp_Tk_learns (β j) (upd (upd σ.1 5 m) 6 c, σ.2) with
      | none => rfl
      | some q =>
        simp only
        have hq := hln q hlx
        by_cases h0 : q.1 = 0
        · rw [if_pos h0, if_pos h0]
        · rw [if_neg h0, if_neg h0]
          rw [hq, hs.1, e2]
          rfl
    · rw [r2 i hi]
      show (nz β 0 i || _) = _
      rw [nz_0, Bool.false_or]
    · rw [r3 i hi]
      show (nz β 0 i || _) = _
      rw [nz_0, Bool.false_or]
  have hout : ∀ (σ : ck_S) (m c th' mi' : Int32) (c1 m' cc s o : Int32), sO E S th mi σ → ((th' = th ||| β j ∧ mi' = mi) ∨ (th' = th ∧ mi' = mi ||| β j)) → G (some y.1.2) b (upd (upd (upd (upd σ.1 5 m) 6 c) 3 th') 4 mi', σ.2) = some (c1, (zu4 (upd (upd (upd (upd σ.1 5 m) 6 c) 3 th') 4 mi') m' cc s o, σ.2)) → (match G (some y.1.2) b (upd (upd (upd (upd σ.1 5 m) 6 c) 3 th') 4 mi', σ.2) with
        | none => none
        | some y8 => (match egI y8.2.2.2.2.1 x.1.2 2 1 with
          | none => none
          | some y9 => (match sp_Tk_forget y9 y8.2 with
            | none => none
            | some y10 => some (y8.1, y10)))) = some (c1, (zu4 σ.1 m' cc s o, σ.2)) := by
    intro σ m c th' mi' c1 m' cc s o hs hw hg
    rw [hg]
    simp only [hs.1, e1]
    unfold sp_Tk_forget
    simp only
    have hfin : ∀ Q : Nat → Int32, Q = zu4 (upd (upd (upd (upd σ.1 5 m) 6 c) 3 th') 4 mi') m' cc s o → upd (upd Q 3 (Q 3 &&& (β j ^^^ (-1)))) 4 (Q 4 &&& (β j ^^^ (-1))) = zu4 σ.1 m' cc s o := by
      intro Q hQ
      have q3 : Q 3 = th' := by rw [hQ]; rfl
      have q4 : Q 4 = mi' := by rw [hQ]; rfl
      have w3 : Q 3 &&& (β j ^^^ (-1)) = σ.1 3 := by
        rw [q3, hs.2.2.1]
        rcases hw with ⟨h1, _⟩ | ⟨h1, _⟩
        · rw [h1, or_wo ht0]
        · rw [h1, wo_of ht0]
      have zw4 : Q 4 &&& (β j ^^^ (-1)) = σ.1 4 := by
        rw [q4, hs.2.2.2]
        rcases hw with ⟨_, h1⟩ | ⟨_, h1⟩
        · rw [h1, wo_of hi0]
        · rw [h1, or_wo hi0]
      rw [w3, zw4, hQ]
      funext i
      unfold zu4 upd
      by_cases i3 : i = 3
      · simp [i3]
      · by_cases i4 : i = 4
        · simp [i4]
        · by_cases i5 : i = 5
          · simp [i5]
          · by_cases i6 : i = 6
            · simp [i6]
            · simp [i3, i4, i5, i6]
    rw [hfin _ rfl]
  have hlearn : ∀ (σ : ck_S) (m c : Int32), sO E S th mi σ → (∀ i, i < 26 → nz β m i = sg xm i) → (∀ i, i < 26 → nz β c i = sg xc i) → sp_Tk_learns (β j) (upd (upd σ.1 5 m) 6 c, σ.2) = (if sg xm j = true then some (1, (upd (upd (upd (upd σ.1 5 m) 6 c) 3 (th ||| β j)) 4 mi, σ.2)) else if sg xc j = true then some (0, (upd (upd σ.1 5 m) 6 c, σ.2)) else some (1, (upd (upd (upd (upd σ.1 5 m) 6 c) 3 th) 4 (mi ||| β j), σ.2))) := by
    intro σ m c hs r2 r3
    have hm : (m &&& β j = 0) ↔ sg xm j = false := by rw [← r2 j hj]; exact nz_eq0
    have hc : (c &&& β j = 0) ↔ sg xc j = false := by rw [← r3 j hj]; exact nz_eq0
    unfold sp_Tk_learns
    have g5 : upd (upd σ.1 5 m) 6 c 5 = m := rfl
    have g6 : upd (upd σ.1 5 m) 6 c 6 = c := rfl
    have g3 : upd (upd σ.1 5 m) 6 c 3 = th := hs.2.2.1
    have g4 : upd (upd σ.1 5 m) 6 c 4 = mi := hs.2.2.2
    simp only [g5, g6, g3, g4]
    cases h1 : sg xm j with
    | true =>
      rw [if_neg (fun h => by rw [hm.mp h] at h1; cases h1), if_pos rfl]
      have : upd (upd (upd (upd σ.1 5 m) 6 c) 3 (th ||| β j)) 4 mi = upd (upd (upd σ.1 5 m) 6 c) 3 (th ||| β j) := by
        have h4 : (upd (upd (upd σ.1 5 m) 6 c) 3 (th ||| β j)) 4 = mi := g4
        rw [← h4, upd_self]
      rw [this]
    | false =>
      rw [if_pos (hm.mpr h1)]
      simp only [Bool.false_eq_true, if_false]
      cases h2 : sg xc j with
      | true => rw [if_neg (fun h => by rw [hc.mp h] at h2; cases h2), if_pos rfl]
      | false =>
        rw [if_pos (hc.mpr h2)]
        simp only [Bool.false_eq_true, if_false]
        have : upd (upd (upd σ.1 5 m) 6 c) 3 th = upd (upd σ.1 5 m) 6 c := by
          rw [← g3, upd_self]
        rw [this]
  have hsO : ∀ (σ : ck_S) (m c th' mi' : Int32), sO E S th mi σ → sO E S th' mi' (upd (upd (upd (upd σ.1 5 m) 6 c) 3 th') 4 mi', σ.2) := fun σ m c th' mi' hs => ⟨hs.1, hs.2.1, rfl, rfl⟩
  have hgd : ∀ s c s', GD T t y res s c s' → GD T t x res s c s' := fun s c s' h => GD_wk h (by omega) (by omega) (fun _ k hk => by rw [ho]; exact hk)
  have main : ∀ (v th' mi' : Int32), v ≠ 0 → Kn β (zext Γ j) (upd K j v) th' mi' → ((th' = th ||| β j ∧ mi' = mi) ∨ (th' = th ∧ mi' = mi ||| β j)) → (if sg xm j = true then (1 : Int32) else if sg xc j = true then 0 else 2) = v → (∀ (σ : ck_S) (m c : Int32), sO E S th mi σ → (∀ i, i < 26 → nz β m i = sg xm i) → (∀ i, i < 26 → nz β c i = sg xc i) → sp_Tk_learns (β j) (upd (upd σ.1 5 m) 6 c, σ.2) = some (1, (upd (upd (upd (upd σ.1 5 m) 6 c) 3 th') 4 mi', σ.2))) → zCT E S th mi (sp_Tk_perform G (some x.1.2) b) ∧ RT (gwF T S f g x.1.1 res K) ∧ JT E S th mi (gwF T S f g x.1.1 res K) (sp_Tk_perform G (some x.1.2) b) (GD T t x res) := by
    intro v th' mi' hv0 hK' hw hvv hle
    obtain ⟨hC, hR, hJ⟩ := hP _ th' mi' hK' (hkn' v hv0) res b hrb'
    refine ⟨fun σ hs h8 => ?_, fun s fl hf => ?_, fun s σ hs h8 h7 => ?_⟩
    · obtain ⟨m, c, q1, q2, q3⟩ := hcl2 σ hs
      obtain ⟨c1, m1, cc1, s1, o1, a1, a2, a3⟩ := hC (upd (upd (upd (upd σ.1 5 m) 6 c) 3 th') 4 mi', σ.2) (hsO σ m c th' mi' hs) h8
      refine ⟨c1, m1, cc1, s1, o1, ?_, a2, a3⟩
      rw [hcl σ hs.1, q1, hle σ m c hs q2 q3]
      simp only
      rw [if_neg (by decide)]
      exact hout σ m c th' mi' c1 m1 cc1 s1 o1 hs hw a1
    · rw [hgo, hgl, hvv, if_neg hv0]
      exact hR s fl hf
    · obtain ⟨m, c, q1, q2, q3⟩ := hcl2 σ hs
      obtain ⟨c1, s', fl', c', m1, cc1, s7, o1, a1, a2, a3⟩ := hJ s (upd (upd (upd (upd σ.1 5 m) 6 c) 3 th') 4 mi', σ.2) (hsO σ m c th' mi' hs) h8 h7
      refine ⟨c1, s', fl', c', m1, cc1, s7, o1, ?_, ?_, ?_⟩
      · rw [hgo, hgl, hvv, if_neg hv0]
        exact a1
      · rw [hcl σ hs.1, q1, hle σ m c hs q2 q3]
        simp only
        rw [if_neg (by decide)]
        exact hout σ m c th' mi' c' m1 cc1 s7 o1 hs hw a2
      · rcases a3 with ⟨b1, b2, b3, b4, b5⟩ | w
        · exact Or.inl ⟨b1, b2, b3, b4, hgd _ _ _ b5⟩
        · exact Or.inr w
  cases h1 : sg xm j with
  | true =>
    refine main 1 (th ||| β j) mi (by decide) (kn_1 hO hj hb0 hK hΓ) (Or.inl ⟨rfl, rfl⟩) (by rw [h1]; rfl) (fun σ m c hs r2 r3 => ?_)
    rw [hlearn σ m c hs r2 r3, if_pos h1]
  | false =>
    cases h2 : sg xc j with
    | true =>
      have h0 : (if sg xm j = true then (1 : Int32) else if sg xc j = true then 0 else 2) = 0 := by rw [h1, h2]; rfl
      have hcx : ∀ σ, sO E S th mi σ → ∃ m c, sp_Tk_perform G (some x.1.2) b σ = some (0, (zu4 σ.1 m c (σ.1 7) 1, σ.2)) := by
        intro σ hs
        obtain ⟨m, c, q1, q2, q3⟩ := hcl2 σ hs
        refine ⟨m, c, ?_⟩
        rw [hcl σ hs.1, q1, hlearn σ m c hs q2 q3, if_neg (by rw [h1]; decide), if_pos h2]
        simp only
        rw [if_pos trivial]
        have : upd (upd (upd σ.1 5 m) 6 c) 8 1 = zu4 σ.1 m c (σ.1 7) 1 := by
          unfold zu4
          have h7 : upd (upd σ.1 5 m) 6 c 7 = σ.1 7 := rfl
          rw [← h7, upd_self]
        rw [this]
      refine ⟨fun σ hs h8 => ?_, fun s fl hf => ?_, fun s σ hs h8 h7 => ?_⟩
      · obtain ⟨m, c, q⟩ := hcx σ hs
        exact ⟨0, m, c, σ.1 7, 1, q, Or.inr rfl, fun _ => rfl⟩
      · rw [hgo, hgl, if_pos h0]
        exact ⟨0, s, 2, rfl, Or.inr rfl, fun _ => rfl⟩
      · obtain ⟨m, c, q⟩ := hcx σ hs
        rw [hgo, hgl, if_pos h0]
        exact ⟨0, s, 2, 0, m, c, σ.1 7, 1, rfl, q, Or.inr ⟨rfl, rfl⟩⟩
    | false =>
      refine main 2 th (mi ||| β j) (by decide) (kn_2 hO hj hb0 hK hΓ) (Or.inr ⟨rfl, rfl⟩) (by rw [h1, h2]; rfl) (fun σ m c hs r2 r3 => ?_)
      rw [hlearn σ m c hs r2 r3, if_neg (by rw [h1]; decide), if_neg (by rw [h2]; decide)]
end P4
