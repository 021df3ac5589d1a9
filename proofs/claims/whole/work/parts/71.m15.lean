abbrev tp_G : Type := Option Nat → Int32 → ck_S → Option (Int32 × ck_S)
def zu4 (r : Nat → Int32) (m c s o : Int32) : Nat → Int32 := upd (upd (upd (upd r 5 m) 6 c) 7 s) 8 o
theorem u4_u4 {r : Nat → Int32} {m c s o m' c' s' o' : Int32} : zu4 (zu4 r m c s o) m' c' s' o' = zu4 r m' c' s' o' := by
  funext j
  unfold zu4 upd
  by_cases h5 : j = 5
  · simp [h5]
  · by_cases h6 : j = 6
    · simp [h6]
    · by_cases h7 : j = 7
      · simp [h7]
      · by_cases h8 : j = 8
        · simp [h8]
        · simp [h5, h6, h7, h8]
theorem u4_id {r : Nat → Int32} : zu4 r (r 5) (r 6) (r 7) (r 8) = r := by
  unfold zu4
  rw [upd_self, upd_self, upd_self, upd_self]
theorem u4_7 {r : Nat → Int32} {s : Int32} : upd r 7 s = zu4 r (r 5) (r 6) s (r 8) := by
  funext j
  unfold zu4 upd
  by_cases h5 : j = 5
  · simp [h5]
  · by_cases h6 : j = 6
    · simp [h6]
    · by_cases h7 : j = 7
      · simp [h7]
      · by_cases h8 : j = 8
        · simp [h8]
        · simp [h5, h6, h7, h8]
theorem u4_ne {r : Nat → Int32} {m c s o : Int32} {j : Nat} (h5 : j ≠ 5) (h6 : j ≠ 6) (h7 : j ≠ 7) (h8 : j ≠ 8) : zu4 r m c s o j = r j := by
  unfold zu4 upd
  simp [h5, h6, h7, h8]
def sO (E : ck_E) (S th mi : Int32) (σ : ck_S) : Prop := σ.2.2.2.1 = E ∧ σ.1 2 = S ∧ σ.1 3 = th ∧ σ.1 4 = mi
theorem sO_u4 {E : ck_E} {S th mi : Int32} {σ : ck_S} {m c s o : Int32} (h : sO E S th mi σ) : sO E S th mi (zu4 σ.1 m c s o, σ.2) := h
def zCT (E : ck_E) (S th mi : Int32) (G : ck_S → Option (Int32 × ck_S)) : Prop := ∀ σ, sO E S th mi σ → (σ.1 8 = 0 ∨ σ.1 8 = 1) → ∃ c m cc s o, G σ = some (c, (zu4 σ.1 m cc s o, σ.2)) ∧ (o = 0 ∨ o = 1) ∧ (σ.1 8 = 1 → o = 1)
def RT (R : Int32 → Int32 → Option gw_V) : Prop := ∀ s fl, (fl = 0 ∨ fl = 2) → ∃ c s' fl', R s fl = some (c, s', fl') ∧ (fl' = 0 ∨ fl' = 2) ∧ (fl = 2 → fl' = 2)
def JT (E : ck_E) (S th mi : Int32) (R : Int32 → Int32 → Option gw_V) (G : ck_S → Option (Int32 × ck_S)) (Gd : Int32 → Int32 → Int32 → Prop) : Prop := ∀ s σ, sO E S th mi σ → σ.1 8 = 0 → σ.1 7 = s → ∃ c s' fl' c' m cc s7 o, R s 0 = some (c, s', fl') ∧ G σ = some (c', (zu4 σ.1 m cc s7 o, σ.2)) ∧ ((fl' = 0 ∧ o = 0 ∧ c' = c ∧ s7 = s' ∧ Gd s c s') ∨ (fl' = 2 ∧ o = 1))
def GD (T : mw_A) (t : Nat) (x : kd_R) (res s c s' : Int32) : Prop := ∃ k : Nat, c = Int32.ofNat k ∧ k ≤ 1 + t ∧ (∀ i, (i < x.2.2.2.1 ∨ x.2.2.2.2 ≤ i) → bt s' i = bt s i) ∧ (k = 1 → ∃ i, x.2.2.2.1 ≤ i ∧ i < x.2.2.2.2 ∧ bt s' i = true) ∧ (res = 0 → bt (T 26 x.1.1.toNatClampNeg) k = true)
def zPS (T : mw_A) (S : Int32) (E : ck_E) (β : Nat → Int32) (g : gw_G) (G : tp_G) (Γ : Nat → Bool) (t : Nat) (x : kd_R) : Prop :=
  ∀ K th mi, Kn β Γ K th mi → (∀ j, j < 26 → Γ j = true → K j ≠ 0) → ∀ res b : Int32, (res = 0 ∧ b = 1 ∨ res = 1 ∧ b = 0 ∧ T 25 x.1.1.toNatClampNeg &&& S ≠ 0) → zCT E S th mi (G (some x.1.2) b) ∧ RT (g x.1.1 res K) ∧ JT E S th mi (g x.1.1 res K) (G (some x.1.2) b) (GD T t x res)
section P1
variable {T : mw_A} {S : Int32} {E : ck_E} {β : Nat → Int32} {f : mw_F} {g : gw_G} {G G' : ck_S → Option (Int32 × ck_S)} {R R' : Int32 → Int32 → Option gw_V} {Γ : Nat → Bool} {th mi : Int32} {K : Nat → Int32} {Gd Gd' : Int32 → Int32 → Int32 → Prop}
theorem PT_eq (h : zCT E S th mi G ∧ RT R ∧ JT E S th mi R G Gd) (hG : ∀ σ, sO E S th mi σ → G' σ = G σ) (hR : ∀ s fl, (fl = 0 ∨ fl = 2) → R' s fl = R s fl) (hd : ∀ s c s', Gd s c s' → Gd' s c s') : zCT E S th mi G' ∧ RT R' ∧ JT E S th mi R' G' Gd' := by
  obtain ⟨h1, h2, h3⟩ := h
  refine ⟨fun σ hs h8 => ?_, fun s fl hf => ?_, fun s σ hs h8 h7 => ?_⟩
  · rw [hG σ hs]; exact h1 σ hs h8
  · rw [hR s fl hf]; exact h2 s fl hf
  · rw [hG σ hs, hR s 0 (Or.inl rfl)]
    obtain ⟨c, s', fl', c', m, cc, s7, o, a1, a2, a3⟩ := h3 s σ hs h8 h7
    refine ⟨c, s', fl', c', m, cc, s7, o, a1, a2, ?_⟩
    rcases a3 with ⟨b1, b2, b3, b4, b5⟩ | b
    · exact Or.inl ⟨b1, b2, b3, b4, hd _ _ _ b5⟩
    · exact Or.inr b
theorem PT_const {c : Int32} {F : Int32 → Int32} (hG : ∀ σ, sO E S th mi σ → G σ = some (c, (upd σ.1 7 (F (σ.1 7)), σ.2))) (hR : ∀ s fl, R s fl = some (c, F s, fl)) (hd : ∀ s, Gd s c (F s)) : zCT E S th mi G ∧ RT R ∧ JT E S th mi R G Gd := by
  refine ⟨fun σ hs h8 => ?_, fun s fl hf => ?_, fun s σ hs h8 h7 => ?_⟩
  · exact ⟨c, σ.1 5, σ.1 6, F (σ.1 7), σ.1 8, by rw [hG σ hs, u4_7], h8, id⟩
  · exact ⟨c, F s, fl, hR s fl, hf, id⟩
  · refine ⟨c, F s, 0, c, σ.1 5, σ.1 6, F (σ.1 7), σ.1 8, hR s 0, by rw [hG σ hs, u4_7], Or.inl ⟨rfl, h8, rfl, by rw [h7], hd s⟩⟩
end P1
def gwF (T : mw_A) (S : Int32) (f : mw_F) (g : gw_G) : gw_G := fun p res K s fl => if gi p 2600 = true then gw_go T S f g p res K s fl else none
section P2
variable {T : mw_A} {S : Int32} {E : ck_E} {β : Nat → Int32} {f : mw_F} {g : gw_G} {G : tp_G} {Γ : Nat → Bool} {th mi : Int32} {K : Nat → Int32}
theorem gw_su {n : Nat} : gw T S (n + 1) = gwF T S (mw T S n) (gw T S n) := rfl
theorem tp_su {n : Nat} : tp (n + 1) = sp_Tk_perform (tp n) := rfl
theorem gwF_p {p res s fl : Int32} (hp : gi p 2600 = true) : gwF T S f g p res K s fl = gw_go T S f g p res K s fl := if_pos hp
theorem ofN0 : (0 : Int32) = Int32.ofNat 0 := rfl
theorem ofN1 : (1 : Int32) = Int32.ofNat 1 := rfl
theorem ps_idle {x : kd_R} {t : Nat} (hR : ∀ res K s fl, gwF T S f g x.1.1 res K s fl = some (0, s, fl)) (hG : ∀ (σ : ck_S) b, σ.2.2.2.1 = E → sp_Tk_perform G (some x.1.2) b σ = some (0, σ)) (ho : T 26 x.1.1.toNatClampNeg = 1) : zPS T S E β (gwF T S f g) (sp_Tk_perform G) Γ t x := by
  intro K th mi hK hkn res b _
  refine PT_const (F := id) (fun σ hs => ?_) (fun s fl => hR _ _ _ _) (fun s => ?_)
  · rw [hG σ b hs.1]
    simp only [id]
    rw [upd_self]
  · exact ⟨0, ofN0, by omega, fun _ _ => rfl, fun h => by omega, fun _ => by rw [ho, bt_1]; rfl⟩
theorem ps_0 {x : kd_R} {t : Nat} (hp : gi x.1.1 2600 = true) (hk : T 20 x.1.1.toNatClampNeg = 0 ∨ T 20 x.1.1.toNatClampNeg = 2) (e0 : egI E x.1.2 2 0 = some (T 20 x.1.1.toNatClampNeg)) (ho : T 26 x.1.1.toNatClampNeg = 1) : zPS T S E β (gwF T S f g) (sp_Tk_perform G) Γ t x := by
  refine ps_idle (fun res K s fl => ?_) (fun σ b hE => ?_) ho
  · rw [gwF_p hp]
    unfold gw_go
    rcases hk with h | h <;> simp [h]
  · unfold sp_Tk_perform
    rcases hk with h | h <;> simp [hE, e0, h]
theorem ps_7 {x : kd_R} {t k : Nat} (hp : gi x.1.1 2600 = true) (hk : T 20 x.1.1.toNatClampNeg = 7) (e0 : egI E x.1.2 2 0 = some 7) (h2 : 2 ≤ k) (ht : k ≤ 1 + t) (h16 : k < 16) (hn : T 22 x.1.1.toNatClampNeg = Int32.ofNat k) (e1 : egI E x.1.2 2 1 = some (Int32.ofNat k)) (ho : T 26 x.1.1.toNatClampNeg = (1 : Int32) <<< (T 22 x.1.1.toNatClampNeg &&& 31)) : zPS T S E β (gwF T S f g) (sp_Tk_perform G) Γ t x := by
  intro K th mi hK hkn res b _
  refine PT_const (c := Int32.ofNat k) (F := id) (fun σ hs => ?_) (fun s fl => ?_) (fun s => ?_)
  · unfold sp_Tk_perform
    simp only [hs.1, e0, e1]
    simp
    rw [upd_self]
  · rw [gwF_p hp]
    unfold gw_go
    simp only [hk, hn]
    simp
  · exact ⟨k, rfl, ht, fun _ _ => rfl, fun h => by omega, fun _ => by rw [ho, hn, bt_p2 (by omega)]; simp⟩
theorem ps_1 {x : kd_R} {t : Nat} (hp : gi x.1.1 2600 = true) (hk : T 20 x.1.1.toNatClampNeg = 1) (e0 : egI E x.1.2 2 0 = some 1) (e1 : egI E x.1.2 2 1 = some (T 25 x.1.1.toNatClampNeg)) (hv : x.2.2.2.2 = x.2.2.2.1 + 1) (hm : ∀ i, bt (T 25 x.1.1.toNatClampNeg) i = decide (x.2.2.2.1 ≤ i ∧ i < x.2.2.2.2)) (ho : T 26 x.1.1.toNatClampNeg = 2) : zPS T S E β (gwF T S f g) (sp_Tk_perform G) Γ t x := by
  intro K th mi hK hkn res b hrb
  rcases hrb with ⟨hr, hb⟩ | ⟨hr, hb, hst⟩
  · subst hr hb
    refine PT_const (c := 1) (F := fun s => s ||| T 25 x.1.1.toNatClampNeg) (fun σ hs => ?_) (fun s fl => ?_) (fun s => ?_)
    · unfold sp_Tk_perform
      simp only [hs.1, e0, e1]
      simp
      rw [← hs.1]
    · rw [gwF_p hp]
      unfold gw_go
      simp only [hk]
      simp
    · refine ⟨1, ofN1, by omega, fun i hi => ?_, fun _ => ⟨x.2.2.2.1, by omega, by omega, ?_⟩, fun _ => by rw [ho, bt_2]; rfl⟩
      · rw [bt_or, hm i]
        have : ¬ (x.2.2.2.1 ≤ i ∧ i < x.2.2.2.2) := by omega
        simp [this]
      · rw [bt_or, hm]
        have : (x.2.2.2.1 ≤ x.2.2.2.1 ∧ x.2.2.2.1 < x.2.2.2.2) := by omega
        simp [this]
  · subst hr hb
    refine PT_const (c := 0) (F := fun s => s ||| 0) (fun σ hs => ?_) (fun s fl => ?_) (fun s => ?_)
    · unfold sp_Tk_perform
      simp only [hs.1, e0]
      simp
      rw [← hs.1]
    · rw [gwF_p hp]
      unfold gw_go
      simp only [hk]
      simp
    · refine ⟨0, ofN0, by omega, fun i hi => ?_, fun h => by omega, fun h => absurd h (by decide)⟩
      simp
end P2
