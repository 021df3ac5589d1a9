section P5
variable {T : mw_A} {S : Int32} {E : ck_E} {β : Nat → Int32} {f : mw_F} {g : gw_G} {G : tp_G} {Γ : Nat → Bool} {th mi : Int32} {K : Nat → Int32}
theorem pz_le : ∀ (xs : List kd_R) (u v : Nat), pz xs u v → (∀ y ∈ xs, y.2.2.2.1 ≤ y.2.2.2.2) → u ≤ v := by
  intro xs
  induction xs with
  | nil => intro u v h _; exact Nat.le_of_eq h
  | cons y ys ih =>
    intro u v h hy
    have h1 := hy y (by simp)
    have h2 := ih _ _ h.2 (fun z hz => hy z (List.mem_cons_of_mem _ hz))
    have h3 := h.1
    omega
theorem pz_split : ∀ (pre : List kd_R) (z : kd_R) (post : List kd_R) (u v : Nat), pz (pre ++ z :: post) u v → (∀ y ∈ pre ++ z :: post, y.2.2.2.1 ≤ y.2.2.2.2) → u ≤ z.2.2.2.1 ∧ pz post z.2.2.2.2 v := by
  intro pre
  induction pre with
  | nil => intro z post u v h hy; exact ⟨Nat.le_of_eq h.1.symm, h.2⟩
  | cons y ys ih =>
    intro z post u v h hy
    obtain ⟨h1, h2⟩ := ih z post _ _ h.2 (fun w hw => hy w (List.mem_cons_of_mem _ hw))
    have h3 := hy y (by simp)
    have h4 := h.1
    exact ⟨by omega, h2⟩
theorem os9_keep {O o : Int32} {k : Nat} (h0 : k ≠ 0) (h : bt O k = true) : bt (oS 9 O o) k = true := by
  unfold oS
  rw [if_neg (by decide), if_neg (by decide), if_pos rfl]
  by_cases hc : O &&& 1 = 0
  · rw [if_pos hc]; exact h
  · rw [if_neg hc, bt_or, bt_and, h, bt_m2]
    have : k < 32 := Nat.lt_of_not_le fun e => by rw [bt_hi e] at h; cases h
    simp [h0, this]
theorem os9_on {O o : Int32} {k : Nat} (h0 : bt O 0 = true) (h : bt o k = true) : bt (oS 9 O o) k = true := by
  unfold oS
  rw [if_neg (by decide), if_neg (by decide), if_pos rfl]
  rw [if_neg (fun hc => by rw [and1_bt, h0] at hc; cases hc), bt_or, h, Bool.or_true]
theorem os9_fold (F : kd_R → Int32) : ∀ (xs : List kd_R) (O : Int32) (k : Nat), k ≠ 0 → bt O k = true → bt (xs.foldl (fun c y => oS 9 c (F y)) O) k = true := by
  intro xs
  induction xs with
  | nil => intro O k _ h; exact h
  | cons y ys ih => intro O k h0 h; exact ih _ k h0 (os9_keep h0 h)
def GL (T : mw_A) (xs : List kd_R) (t u v k0 : Nat) (s c s' : Int32) : Prop := ∃ k : Nat, c = Int32.ofNat k ∧ k ≤ 1 + t ∧ (∀ i, (i < u ∨ v ≤ i) → bt s' i = bt s i) ∧ (k0 ≠ 0 → k = k0 ∧ s' = s) ∧ (k0 = 0 → k = 1 → ∃ i, u ≤ i ∧ i < v ∧ bt s' i = true) ∧ (∀ O, bt O k0 = true → bt (xs.foldl (fun c y => oS 9 c (T 26 y.1.1.toNatClampNeg)) O) k = true)
theorem row_p {t : Nat} (ht : t < 20) (hK : Kn β Γ K th mi) (hkn : ∀ j, j < 26 → Γ j = true → K j ≠ 0) : ∀ (xs : List kd_R) (u v : Nat) (k : Int32) (c : Option Nat) (N N2 : Nat) (v1 : Option Nat) (v2 : Int32) (v3 : Option Nat), chn T E (xs.map (fun y => y.1)) k c → pz xs u v → (∀ y ∈ xs, y.2.2.2.1 ≤ y.2.2.2.2) → xs.length < N → xs.length < N2 → (∀ y ∈ xs, zPS T S E β g G Γ t y) →
    (∀ c0, zCT E S th mi (fun σ => sp_Tk_performRow_42 G N2 v1 v2 v3 c0 c σ)) ∧ (∀ c0, RT (fun s fl => gw_sl g T K N k c0 s fl)) ∧ (∀ k0, k0 ≤ 1 + t → JT E S th mi (fun s fl => gw_sl g T K N k (Int32.ofNat k0) s fl) (fun σ => sp_Tk_performRow_42 G N2 v1 v2 v3 (Int32.ofNat k0) c σ) (GL T xs t u v k0)) := by
  intro xs
  induction xs with
  | nil =>
    intro u v k c N N2 v1 v2 v3 hc hz _ hN hN2 _
    obtain ⟨N, rfl⟩ : ∃ M, N = M + 1 := ⟨N - 1, by simp at hN; omega⟩
    obtain ⟨N2, rfl⟩ : ∃ M, N2 = M + 1 := ⟨N2 - 1, by simp at hN2; omega⟩
    obtain ⟨rfl, rfl⟩ := hc
    have hall : ∀ c0, ∀ Gd : Int32 → Int32 → Int32 → Prop, (∀ s, Gd s c0 s) → zCT E S th mi (fun σ => sp_Tk_performRow_42 G (N2 + 1) v1 v2 v3 c0 none σ) ∧ RT (fun s fl => gw_sl g T K (N + 1) (-1) c0 s fl) ∧ JT E S th mi (fun s fl => gw_sl g T K (N + 1) (-1) c0 s fl) (fun σ => sp_Tk_performRow_42 G (N2 + 1) v1 v2 v3 c0 none σ) Gd := by
      intro c0 Gd hd
      refine PT_const (c := c0) (F := id) (fun σ hs => ?_) (fun s fl => ?_) hd
      · simp only [id]
        rw [upd_self]
        rfl
      · unfold gw_sl
        rw [if_pos rfl]
        rfl
    refine ⟨fun c0 => (hall c0 (fun _ _ _ => True) (fun _ => trivial)).1, fun c0 => (hall c0 (fun _ _ _ => True) (fun _ => trivial)).2.1, fun k0 hk0 => (hall _ _ (fun s => ⟨k0, rfl, hk0, fun _ _ => rfl, fun _ => ⟨rfl, rfl⟩, fun h1 h2 => by omega, fun O h => h⟩)).2.2⟩
  | cons y ys ih =>
    intro u v k c N N2 v1 v2 v3 hc hz hle hN hN2 hP
    obtain ⟨N, rfl⟩ : ∃ M, N = M + 1 := ⟨N - 1, by simp at hN; omega⟩
    obtain ⟨N2, rfl⟩ : ∃ M, N2 = M + 1 := ⟨N2 - 1, by simp at hN2; omega⟩
    obtain ⟨q1, q2, q3, q4, c', q5, q6⟩ := hc
    subst q1 q2
    obtain ⟨z1, z2⟩ := hz
    have hyle := hle y (by simp)
    have hvle := pz_le ys _ _ z2 (fun z hz => hle z (List.mem_cons_of_mem _ hz))
    obtain ⟨iC, iR, iJ⟩ := ih y.2.2.2.2 v _ c' N N2 v1 v2 v3 q6 z2 (fun z hz => hle z (List.mem_cons_of_mem _ hz)) (by simp at hN; omega) (by simp at hN2; omega) (fun z hz => hP z (List.mem_cons_of_mem _ hz))
    obtain ⟨yC, yR, yJ⟩ := hP y (by simp) K th mi hK hkn 0 1 (Or.inl ⟨rfl, rfl⟩)
    have hn1 := gi_n1 q3
    have c_no : ∀ (c0 : Int32) (σ : ck_S), c0 ≠ 0 → sp_Tk_performRow_42 G (N2 + 1) v1 v2 v3 c0 (some y.1.2) σ = some (c0, σ) := by
      intro c0 σ h0
      unfold sp_Tk_performRow_42
      simp only [h0, if_false]
    have c_go : ∀ (σ : ck_S) (c1 m cc s o : Int32), σ.2.2.2.1 = E → G (some y.1.2) 1 σ = some (c1, (zu4 σ.1 m cc s o, σ.2)) → sp_Tk_performRow_42 G (N2 + 1) v1 v2 v3 0 (some y.1.2) σ = sp_Tk_performRow_42 G N2 v1 v2 v3 c1 c' (zu4 σ.1 m cc s o, σ.2) := by
      intro σ c1 m cc s o hE hg
      conv => lhs; unfold sp_Tk_performRow_42
      simp only [if_true, hg, hE, q5]
    have r_no : ∀ (c0 s fl : Int32), (c0 ≠ 0 ∨ fl ≠ 0) → gw_sl g T K (N + 1) y.1.1 c0 s fl = some (c0, s, fl) := by
      intro c0 s fl h
      unfold gw_sl
      rw [if_neg hn1]
      by_cases h0 : c0 = 0
      · rcases h with h | h
        · exact absurd h0 h
        · rw [if_pos h0, if_neg h]
      · rw [if_neg h0]
    have r_go : ∀ (s c1 s1 fl1 : Int32), g y.1.1 0 K s 0 = some (c1, s1, fl1) → gw_sl g T K (N + 1) y.1.1 0 s 0 = gw_sl g T K N (T 24 y.1.1.toNatClampNeg) c1 s1 fl1 := by
      intro s c1 s1 fl1 hg
      conv => lhs; unfold gw_sl
      rw [if_neg hn1, if_pos rfl, if_pos rfl, hg]
      simp only
      rw [if_pos q3]
    refine ⟨fun c0 σ hs h8 => ?_, fun c0 s fl hf => ?_, fun k0 hk0 s σ hs h8 h7 => ?_⟩
    · by_cases h0 : c0 = 0
      · subst h0
        obtain ⟨c1, m, cc, s, o, a1, a2, a3⟩ := yC σ hs h8
        obtain ⟨c2, m2, cc2, s2, o2, b1, b2, b3⟩ := iC c1 (zu4 σ.1 m cc s o, σ.2) (sO_u4 hs) a2
        refine ⟨c2, m2, cc2, s2, o2, ?_, b2, fun h => b3 (a3 h)⟩
        show sp_Tk_performRow_42 G (N2 + 1) v1 v2 v3 0 (some y.1.2) σ = _
        rw [c_go σ c1 m cc s o hs.1 a1]
        have b1' : sp_Tk_performRow_42 G N2 v1 v2 v3 c1 c' (zu4 σ.1 m cc s o, σ.2) = _ := b1
        rw [b1', u4_u4]
      · refine ⟨c0, σ.1 5, σ.1 6, σ.1 7, σ.1 8, ?_, h8, id⟩
        show sp_Tk_performRow_42 G (N2 + 1) v1 v2 v3 c0 (some y.1.2) σ = _
        rw [c_no c0 σ h0, u4_id]
    · show ∃ c s' fl', gw_sl g T K (N + 1) y.1.1 c0 s fl = some (c, s', fl') ∧ _
      by_cases h0 : c0 = 0
      · by_cases h1 : fl = 0
        · subst h0 h1
          obtain ⟨c1, s1, fl1, a1, a2, a3⟩ := yR s 0 (Or.inl rfl)
          obtain ⟨c2, s2, fl2, b1, b2, b3⟩ := iR c1 s1 fl1 a2
          exact ⟨c2, s2, fl2, by rw [r_go s c1 s1 fl1 a1]; exact b1, b2, fun h => absurd h (by decide)⟩
        · exact ⟨c0, s, fl, r_no c0 s fl (Or.inr h1), hf, id⟩
      · exact ⟨c0, s, fl, r_no c0 s fl (Or.inl h0), hf, id⟩
    · show ∃ c s' fl' c'' m cc s7 o, gw_sl g T K (N + 1) y.1.1 (Int32.ofNat k0) s 0 = some (c, s', fl') ∧ sp_Tk_performRow_42 G (N2 + 1) v1 v2 v3 (Int32.ofNat k0) (some y.1.2) σ = some (c'', (zu4 σ.1 m cc s7 o, σ.2)) ∧ _
      by_cases h0 : k0 = 0
      · subst h0
        obtain ⟨c1, s1, fl1, c1', m, cc, s7, o, a1, a2, a3⟩ := yJ s σ hs h8 h7
        rw [show Int32.ofNat 0 = 0 from rfl, r_go s c1 s1 fl1 a1, c_go σ c1' m cc s7 o hs.1 a2]
        rcases a3 with ⟨b1, b2, b3, b4, k1, d1, d2, d3, d4, d5⟩ | ⟨b1, b2⟩
        · subst b1 b2 b3 b4
          obtain ⟨c2, s2, fl2, c3, m2, cc2, s3, o2, p1, p2, p3⟩ := iJ k1 d2 s7 (zu4 σ.1 m cc s7 0, σ.2) (sO_u4 hs) rfl rfl
          rw [← d1] at p1 p2
          have p1' : gw_sl g T K N (T 24 y.1.1.toNatClampNeg) c1' s7 0 = _ := p1
          have p2' : sp_Tk_performRow_42 G N2 v1 v2 v3 c1' c' (zu4 σ.1 m cc s7 0, σ.2) = _ := p2
          rw [p1', p2', u4_u4]
          refine ⟨c2, s2, fl2, c3, m2, cc2, s3, o2, rfl, rfl, ?_⟩
          rcases p3 with ⟨w1, w2, w3, zw4, kk, g1, g2, g3, g4, g5, g6⟩ | w
          · refine Or.inl ⟨w1, w2, w3, zw4, kk, g1, g2, fun i hi => ?_, fun h => absurd rfl h, fun _ h1 => ?_, fun O hO => ?_⟩
            · rw [g3 i (by omega), d3 i (by omega)]
            · by_cases hk1 : k1 = 0
              · obtain ⟨i, i1, i2, i3⟩ := g5 hk1 h1
                exact ⟨i, by omega, by omega, i3⟩
              · obtain ⟨e1, e2⟩ := g4 hk1
                obtain ⟨i, i1, i2, i3⟩ := d4 (by omega)
                exact ⟨i, by omega, by omega, by rw [e2]; exact i3⟩
            · exact g6 _ (os9_on hO (d5 rfl))
          · exact Or.inr w
        · subst b1 b2
          obtain ⟨c2, s2, fl2, p1, p2, p3⟩ := iR c1 s1 2 (Or.inr rfl)
          obtain ⟨c3, m3, cc3, s3, o3, r1, r2, r3⟩ := iC c1' (zu4 σ.1 m cc s7 1, σ.2) (sO_u4 hs) (Or.inr rfl)
          have r1' : sp_Tk_performRow_42 G N2 v1 v2 v3 c1' c' (zu4 σ.1 m cc s7 1, σ.2) = _ := r1
          refine ⟨c2, s2, fl2, c3, m3, cc3, s3, o3, p1, by rw [r1', u4_u4], Or.inr ⟨p3 rfl, r3 rfl⟩⟩
      · have hne : Int32.ofNat k0 ≠ 0 := ofN_ne0 (by omega) h0
        refine ⟨Int32.ofNat k0, s, 0, Int32.ofNat k0, σ.1 5, σ.1 6, σ.1 7, σ.1 8, r_no _ _ _ (Or.inl hne), by rw [c_no _ σ hne, u4_id], Or.inl ⟨rfl, h8, rfl, h7, k0, rfl, hk0, fun _ _ => rfl, fun _ => ⟨rfl, rfl⟩, fun h => absurd h h0, fun O hO => os9_fold _ _ _ _ h0 hO⟩⟩
theorem ps_9 {x : kd_R} {t : Nat} {xs : List kd_R} {c : Option Nat} (ht : t < 20) (hp : gi x.1.1 2600 = true) (hk : T 20 x.1.1.toNatClampNeg = 9) (e0 : egI E x.1.2 2 0 = some 9) (hc : chn T E (xs.map (fun y => y.1)) (T 23 x.1.1.toNatClampNeg) c) (e2 : egR E x.1.2 2 2 = some c) (hne : xs ≠ []) (hlen : xs.length ≤ 2600) (hst : T 25 x.1.1.toNatClampNeg &&& S ≠ 0 → ∃ z ∈ xs.map (fun y => y.1), T 25 z.1.toNatClampNeg &&& S ≠ 0) (hz : pz xs x.2.2.2.1 x.2.2.2.2) (hle : ∀ y ∈ xs, y.2.2.2.1 ≤ y.2.2.2.2) (ho : zoN T x.1.1.toNatClampNeg xs) (hP : ∀ z ∈ xs, zPS T S E β g G Γ t z) : zPS T S E β (gwF T S f g) (sp_Tk_perform G) Γ t x := by
  intro K th mi hK hkn res b hrb
  have hcl : ∀ (σ : ck_S), σ.2.2.2.1 = E → sp_Tk_perform G (some x.1.2) b σ = sp_Tk_performRow G (some x.1.2) b σ := by
    intro σ hE
    unfold sp_Tk_perform
    simp only [hE, e0]
    simp
    cases sp_Tk_performRow G (some x.1.2) b σ <;> rfl
  have hgo : ∀ s fl, gwF T S f g x.1.1 res K s fl = gw_sq T S g x.1.1 res K s fl := by
    intro s fl
    rw [gwF_p hp]
    unfold gw_go
    simp only [hk]
    simp
  have hfst : ∃ (y : kd_R) (post : List kd_R) (c' : Option Nat), y ∈ xs ∧ (∀ z ∈ post, z ∈ xs) ∧ post.length < xs.length ∧ x.2.2.2.1 ≤ y.2.2.2.1 ∧ pz post y.2.2.2.2 x.2.2.2.2 ∧ mw_fo T S res 2601 (T 23 x.1.1.toNatClampNeg) = some y.1.1 ∧ gi y.1.1 2600 = true ∧ (res = 0 ∧ b = 1 ∨ res = 1 ∧ b = 0 ∧ T 25 y.1.1.toNatClampNeg &&& S ≠ 0) ∧ chn T E (post.map (fun y => y.1)) (T 24 y.1.1.toNatClampNeg) c' ∧ (∀ (σ : ck_S) (r m cc s o : Int32), σ.2.2.2.1 = E → σ.1 2 = S → G (some y.1.2) b σ = some (r, (zu4 σ.1 m cc s o, σ.2)) → sp_Tk_performRow G (some x.1.2) b σ = sp_Tk_performRow_42 G 2601 (some x.1.2) b (some y.1.2) r c' (zu4 σ.1 m cc s o, σ.2)) ∧ (res = 0 → xs = y :: post) := by
    rcases hrb with ⟨hr, hb⟩ | ⟨hr, hb, hs⟩
    · subst hr hb
      cases xs with
      | nil => exact absurd rfl hne
      | cons y ys =>
        obtain ⟨h1, h2, h3, h4, c', h5, h6⟩ := hc
        refine ⟨y, ys, c', by simp, fun z hz => List.mem_cons_of_mem _ hz, by simp, Nat.le_of_eq hz.1.symm, hz.2, ?_, h3, Or.inl ⟨rfl, rfl⟩, h6, ?_, fun _ => rfl⟩
        · unfold mw_fo; rw [if_pos rfl, h1]
        · intro σ r m cc s o hE hS hg
          unfold sp_Tk_performRow
          rw [if_neg (by decide)]
          simp only [hE, e2, h2, hg, h5]
    · subst hr hb
      obtain ⟨pre, z, post, c', l1, l2, l3, l4, l5, l6, l7, l8⟩ := fo_pt (v0 := x.1.2) (S := S) (σ := (fun _ => 0, fun _ _ => 0, fun _ => none, E, 0, 0)) (xs.map (fun y => y.1)) _ _ 2601 2601 hc (by simp; omega) (by simp; omega) (hst hs) rfl
      obtain ⟨pre0, rest0, x1, x2, x3⟩ := List.map_eq_append_iff.mp l1
      obtain ⟨y, post0, x4, x5, x6⟩ := List.map_eq_cons_iff.mp x3
      subst x4
      subst x1
      obtain ⟨p1, p2⟩ := pz_split pre0 y post0 _ _ hz hle
      subst x5
      subst x6
      refine ⟨y, post0, c', by simp, fun w hw => by simp [hw], by simp; omega, p1, p2, l2, l5, Or.inr ⟨rfl, rfl, l4⟩, l7, ?_, fun h => absurd h (by decide)⟩
      intro σ r m cc s o hE hS hg
      have hpt : sp_Node_partThatStands x.1.2 S σ = some (some y.1.2, σ) := by
        obtain ⟨pre', z', post', c'', m1, m2, m3, m4, m5, m6, m7, m8⟩ := fo_pt (v0 := x.1.2) (S := S) (σ := σ) _ _ _ 2601 2601 hc (by simp at hlen ⊢; omega) (by simp at hlen ⊢; omega) (hst hs) hE
        unfold sp_Node_partThatStands
        rw [hE, e2]
        simp only
        rw [m3]
        have : y.1 = z' := by
          have e := l1.symm.trans m1
          clear l1 m1 x2 x3 hc hst hz hle hP ho hne hlen
          induction pre generalizing pre' with
          | nil =>
            cases pre' with
            | nil => injection e
            | cons q qs =>
              injection e with e1 _
              exact absurd (m8 q (by simp)) (e1 ▸ l4)
          | cons q qs ih =>
            cases pre' with
            | nil =>
              injection e with e1 _
              exact absurd (l8 q (by simp)) (e1 ▸ m4)
            | cons q' qs' =>
              injection e with _ e2
              exact ih (fun y hy => l8 y (List.mem_cons_of_mem _ hy)) qs' (fun y hy => m8 y (List.mem_cons_of_mem _ hy)) e2
        rw [this]
      unfold sp_Tk_performRow
      rw [if_pos rfl]
      simp only [hE, eo_ofI e0, hS, hpt, hg, l6]
      simp
  obtain ⟨y, post, c', hy, hsub, hlt, hyu, hpz, hfo, hgy, hrx, hch, hgc, hxs⟩ := hfst
  obtain ⟨yC, yR, yJ⟩ := hP y hy K th mi hK hkn res b hrx
  obtain ⟨iC, iR, iJ⟩ := row_p ht hK hkn post _ _ _ c' 2601 2601 (some x.1.2) b (some y.1.2) hch hpz (fun z hz => hle z (hsub z hz)) (by omega) (by omega) (fun z hz => hP z (hsub z hz))
  have hvle := pz_le post _ _ hpz (fun z hz => hle z (hsub z hz))
  have hyle := hle y hy
  have r_go : ∀ (s fl c1 s1 fl1 : Int32), g y.1.1 res K s fl = some (c1, s1, fl1) → gwF T S f g x.1.1 res K s fl = gw_sl g T K 2601 (T 24 y.1.1.toNatClampNeg) c1 s1 fl1 := by
    intro s fl c1 s1 fl1 hg
    rw [hgo]
    unfold gw_sq
    rw [if_pos hp, hfo]
    simp only [hg]
    rw [if_pos hgy]
  refine ⟨fun σ hs h8 => ?_, fun s fl hf => ?_, fun s σ hs h8 h7 => ?_⟩
  · obtain ⟨c1, m, cc, s, o, a1, a2, a3⟩ := yC σ hs h8
    obtain ⟨c2, m2, cc2, s2, o2, b1, b2, b3⟩ := iC c1 (zu4 σ.1 m cc s o, σ.2) (sO_u4 hs) a2
    refine ⟨c2, m2, cc2, s2, o2, ?_, b2, fun h => b3 (a3 h)⟩
    rw [hcl σ hs.1, hgc σ c1 m cc s o hs.1 hs.2.1 a1]
    have b1' : sp_Tk_performRow_42 G 2601 (some x.1.2) b (some y.1.2) c1 c' (zu4 σ.1 m cc s o, σ.2) = _ := b1
    rw [b1', u4_u4]
  · obtain ⟨c1, s1, fl1, a1, a2, a3⟩ := yR s fl hf
    obtain ⟨c2, s2, fl2, b1, b2, b3⟩ := iR c1 s1 fl1 a2
    exact ⟨c2, s2, fl2, by rw [r_go s fl c1 s1 fl1 a1]; exact b1, b2, fun h => b3 (a3 h)⟩
  · obtain ⟨c1, s1, fl1, c1', m, cc, s7, o, a1, a2, a3⟩ := yJ s σ hs h8 h7
    rw [r_go s 0 c1 s1 fl1 a1, hcl σ hs.1, hgc σ c1' m cc s7 o hs.1 hs.2.1 a2]
    rcases a3 with ⟨b1, b2, b3, b4, k1, d1, d2, d3, d4, d5⟩ | ⟨b1, b2⟩
    · subst b1 b2 b3 b4
      obtain ⟨c2, s2, fl2, c3, m2, cc2, s3, o2, p1, p2, p3⟩ := iJ k1 d2 s7 (zu4 σ.1 m cc s7 0, σ.2) (sO_u4 hs) rfl rfl
      rw [← d1] at p1 p2
      have p1' : gw_sl g T K 2601 (T 24 y.1.1.toNatClampNeg) c1' s7 0 = _ := p1
      have p2' : sp_Tk_performRow_42 G 2601 (some x.1.2) b (some y.1.2) c1' c' (zu4 σ.1 m cc s7 0, σ.2) = _ := p2
      rw [p1', p2', u4_u4]
      refine ⟨c2, s2, fl2, c3, m2, cc2, s3, o2, rfl, rfl, ?_⟩
      rcases p3 with ⟨w1, w2, w3, zw4, kk, g1, g2, g3, g4, g5, g6⟩ | w
      · refine Or.inl ⟨w1, w2, w3, zw4, kk, g1, g2, fun i hi => ?_, fun h1 => ?_, fun hr => ?_⟩
        · rw [g3 i (by omega), d3 i (by omega)]
        · by_cases hk1 : k1 = 0
          · obtain ⟨i, i1, i2, i3⟩ := g5 hk1 h1
            exact ⟨i, by omega, by omega, i3⟩
          · obtain ⟨e1, e2⟩ := g4 hk1
            obtain ⟨i, i1, i2, i3⟩ := d4 (by omega)
            exact ⟨i, by omega, by omega, by rw [e2]; exact i3⟩
        · have hx := hxs hr
          rw [hx] at ho
          have ho' : T 26 x.1.1.toNatClampNeg = oE (T 20 x.1.1.toNatClampNeg) (post.foldl (fun c y => oS (T 20 x.1.1.toNatClampNeg) c (T 26 y.1.1.toNatClampNeg)) (T 26 y.1.1.toNatClampNeg)) := ho
          rw [hk] at ho'
          rw [ho']
          have : oE 9 (post.foldl (fun c y => oS 9 c (T 26 y.1.1.toNatClampNeg)) (T 26 y.1.1.toNatClampNeg)) = post.foldl (fun c y => oS 9 c (T 26 y.1.1.toNatClampNeg)) (T 26 y.1.1.toNatClampNeg) := by
            unfold oE
            rw [if_neg (by decide), if_neg (by decide)]
          rw [this]
          exact g6 _ (d5 hr)
      · exact Or.inr w
    · subst b1 b2
      obtain ⟨c2, s2, fl2, p1, p2, p3⟩ := iR c1 s1 2 (Or.inr rfl)
      obtain ⟨c3, m3, cc3, s3, o3, r1, r2, r3⟩ := iC c1' (zu4 σ.1 m cc s7 1, σ.2) (sO_u4 hs) (Or.inr rfl)
      have r1' : sp_Tk_performRow_42 G 2601 (some x.1.2) b (some y.1.2) c1' c' (zu4 σ.1 m cc s7 1, σ.2) = _ := r1
      exact ⟨c2, s2, fl2, c3, m3, cc3, s3, o3, p1, by rw [r1', u4_u4], Or.inr ⟨p3 rfl, r3 rfl⟩⟩
end P5
