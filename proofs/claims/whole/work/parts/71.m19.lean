section P6
variable {T : mw_A} {S : Int32} {E : ck_E} {β : Nat → Int32} {f : mw_F} {g : gw_G} {G : tp_G} {Γ : Nat → Bool} {th mi : Int32} {K : Nat → Int32}
theorem os10_on {O o : Int32} {k j : Nat} (hO : b16 O) (ho : b16 o) (h : bt O k = true) (h' : bt o j = true) : bt (oS 10 O o) (max k j) = true := by
  unfold oS
  rw [if_neg (by decide), if_pos rfl, gr_eq hO ho, bt_gr]
  by_cases hkj : k ≤ j
  · rw [Nat.max_eq_right hkj]
    exact Or.inr ⟨h', k, hkj, h⟩
  · rw [Nat.max_eq_left (by omega)]
    exact Or.inl ⟨h, j, by omega, h'⟩
theorem max_one {k j : Nat} (h : max k j = 1) (h0 : k ≠ 1) : j = 1 := by omega
theorem os10_16 {O o : Int32} (hO : b16 O) (ho : b16 o) : b16 (oS 10 O o) := by
  unfold oS
  rw [if_neg (by decide), if_pos rfl, gr_eq hO ho]
  exact b16_gr hO ho
theorem mx_c {k j : Nat} (hk : k < 100) (hj : j < 100) : q_max (Int32.ofNat k) (Int32.ofNat j) = Int32.ofNat (max k j) := by
  have h1 : (Int32.ofNat k).toInt = k := Int32.toInt_ofNat_of_lt (by omega)
  have h2 : (Int32.ofNat j).toInt = j := Int32.toInt_ofNat_of_lt (by omega)
  unfold q_max
  by_cases h : k < j
  · rw [if_pos (by rw [Int32.lt_iff_toInt_lt, h1, h2]; omega), Nat.max_eq_right (by omega)]
  · rw [if_neg (by rw [Int32.lt_iff_toInt_lt, h1, h2]; omega), Nat.max_eq_left (by omega)]
theorem le_c {k j : Nat} (hk : k < 100) (hj : j < 100) : (Int32.ofNat j ≤ Int32.ofNat k) ↔ j ≤ k := by
  have h1 : (Int32.ofNat k).toInt = k := Int32.toInt_ofNat_of_lt (by omega)
  have h2 : (Int32.ofNat j).toInt = j := Int32.toInt_ofNat_of_lt (by omega)
  rw [Int32.le_iff_toInt_le, h1, h2]
  omega
def GB (T : mw_A) (xs : List kd_R) (t u v k0 : Nat) (res s c s' : Int32) : Prop := ∃ k : Nat, c = Int32.ofNat k ∧ k ≤ 1 + t ∧ k0 ≤ k ∧ (∀ i, (i < u ∨ v ≤ i) → bt s' i = bt s i) ∧ (k = 1 → k0 = 1 ∨ ∃ i, u ≤ i ∧ i < v ∧ bt s' i = true) ∧ (res = 0 → ∀ O, b16 O → bt O k0 = true → bt (xs.foldl (fun c y => oS 10 c (T 26 y.1.1.toNatClampNeg)) O) k = true)
theorem bes_p {t : Nat} (ht : t < 20) (hK : Kn β Γ K th mi) (hkn : ∀ j, j < 26 → Γ j = true → K j ≠ 0) {res b : Int32} (hrb : res = 0 ∧ b = 1 ∨ res = 1 ∧ b = 0) : ∀ (xs : List kd_R) (u v : Nat) (k : Int32) (c : Option Nat) (N N2 : Nat) (v1 : Option Nat), chn T E (xs.map (fun y => y.1)) k c → pz xs u v → (∀ y ∈ xs, y.2.2.2.1 ≤ y.2.2.2.2) → (∀ y ∈ xs, b16 (T 26 y.1.1.toNatClampNeg)) → xs.length < N → xs.length < N2 → (∀ y ∈ xs, zPS T S E β g G Γ t y) →
    (∀ c0, zCT E S th mi (fun σ => sp_Tk_performBeside_8 G N2 v1 b c0 c σ)) ∧ (∀ c0, RT (fun s fl => gw_pl g T S res K N k c0 s fl)) ∧ (∀ k0, k0 ≤ 1 + t → JT E S th mi (fun s fl => gw_pl g T S res K N k (Int32.ofNat k0) s fl) (fun σ => sp_Tk_performBeside_8 G N2 v1 b (Int32.ofNat k0) c σ) (GB T xs t u v k0 res)) := by
  intro xs
  induction xs with
  | nil =>
    intro u v k c N N2 v1 hc hz _ _ hN hN2 _
    obtain ⟨N, rfl⟩ : ∃ M, N = M + 1 := ⟨N - 1, by simp at hN; omega⟩
    obtain ⟨N2, rfl⟩ : ∃ M, N2 = M + 1 := ⟨N2 - 1, by simp at hN2; omega⟩
    obtain ⟨rfl, rfl⟩ := hc
    have hall : ∀ c0, ∀ Gd : Int32 → Int32 → Int32 → Prop, (∀ s, Gd s c0 s) → zCT E S th mi (fun σ => sp_Tk_performBeside_8 G (N2 + 1) v1 b c0 none σ) ∧ RT (fun s fl => gw_pl g T S res K (N + 1) (-1) c0 s fl) ∧ JT E S th mi (fun s fl => gw_pl g T S res K (N + 1) (-1) c0 s fl) (fun σ => sp_Tk_performBeside_8 G (N2 + 1) v1 b c0 none σ) Gd := by
      intro c0 Gd hd
      refine PT_const (c := c0) (F := id) (fun σ hs => ?_) (fun s fl => ?_) hd
      · simp only [id]
        rw [upd_self]
        rfl
      · unfold gw_pl
        rw [if_pos rfl]
        rfl
    refine ⟨fun c0 => (hall c0 (fun _ _ _ => True) (fun _ => trivial)).1, fun c0 => (hall c0 (fun _ _ _ => True) (fun _ => trivial)).2.1, fun k0 hk0 => (hall _ _ (fun s => ⟨k0, rfl, hk0, Nat.le_refl _, fun _ _ => rfl, fun h => Or.inl h, fun _ O _ h => h⟩)).2.2⟩
  | cons y ys ih =>
    intro u v k c N N2 v1 hc hz hle h16 hN hN2 hP
    obtain ⟨N, rfl⟩ : ∃ M, N = M + 1 := ⟨N - 1, by simp at hN; omega⟩
    obtain ⟨N2, rfl⟩ : ∃ M, N2 = M + 1 := ⟨N2 - 1, by simp at hN2; omega⟩
    obtain ⟨q1, q2, q3, q4, c', q5, q6⟩ := hc
    subst q1 q2
    obtain ⟨z1, z2⟩ := hz
    have hyle := hle y (by simp)
    have hvle := pz_le ys _ _ z2 (fun z hz => hle z (List.mem_cons_of_mem _ hz))
    obtain ⟨iC, iR, iJ⟩ := ih y.2.2.2.2 v _ c' N N2 v1 q6 z2 (fun z hz => hle z (List.mem_cons_of_mem _ hz)) (fun z hz => h16 z (List.mem_cons_of_mem _ hz)) (by simp at hN; omega) (by simp at hN2; omega) (fun z hz => hP z (List.mem_cons_of_mem _ hz))
    have hn1 := gi_n1 q3
    have go : (res = 0 ∧ b = 1 ∨ res = 1 ∧ b = 0 ∧ T 25 y.1.1.toNatClampNeg &&& S ≠ 0) → (∀ c0, zCT E S th mi (fun σ => sp_Tk_performBeside_8 G (N2 + 1) v1 b c0 (some y.1.2) σ)) ∧ (∀ c0, RT (fun s fl => gw_pl g T S res K (N + 1) y.1.1 c0 s fl)) ∧ (∀ k0, k0 ≤ 1 + t → JT E S th mi (fun s fl => gw_pl g T S res K (N + 1) y.1.1 (Int32.ofNat k0) s fl) (fun σ => sp_Tk_performBeside_8 G (N2 + 1) v1 b (Int32.ofNat k0) (some y.1.2) σ) (GB T (y :: ys) t u v k0 res)) := by
      intro hw
      obtain ⟨yC, yR, yJ⟩ := hP y (by simp) K th mi hK hkn res b hw
      have c_go : ∀ (c0 : Int32) (σ : ck_S) (c1 m cc s o : Int32), σ.2.2.2.1 = E → σ.1 2 = S → G (some y.1.2) b σ = some (c1, (zu4 σ.1 m cc s o, σ.2)) → sp_Tk_performBeside_8 G (N2 + 1) v1 b c0 (some y.1.2) σ = sp_Tk_performBeside_8 G N2 v1 b (q_max c0 c1) c' (zu4 σ.1 m cc s o, σ.2) := by
        intro c0 σ c1 m cc s o hE hS hg
        conv => lhs; unfold sp_Tk_performBeside_8
        simp only
        rcases hw with ⟨_, hb⟩ | ⟨_, hb, hst⟩
        · rw [if_neg (by rw [hb]; decide), hg]
          simp only [hE, q5]
        · rw [if_pos hb, hE, if_pos (eo_ofI q4), hS, stands_eq hE q4, if_neg hst]
          simp only
          rw [if_neg (by decide), hg]
          simp only [hE, q5]
      have r_go : ∀ (c0 s fl c1 s1 fl1 : Int32), g y.1.1 res K s fl = some (c1, s1, fl1) → gw_pl g T S res K (N + 1) y.1.1 c0 s fl = gw_pl g T S res K N (T 24 y.1.1.toNatClampNeg) (if c1 ≤ c0 then c0 else c1) s1 fl1 := by
        intro c0 s fl c1 s1 fl1 hg
        conv => lhs; unfold gw_pl
        rw [if_neg hn1]
        have hfin : (if c1 ≤ c0 then gw_pl g T S res K N (T 24 y.1.1.toNatClampNeg) c0 s1 fl1 else gw_pl g T S res K N (T 24 y.1.1.toNatClampNeg) c1 s1 fl1) = gw_pl g T S res K N (T 24 y.1.1.toNatClampNeg) (if c1 ≤ c0 then c0 else c1) s1 fl1 := by
          by_cases h : c1 ≤ c0
          · rw [if_pos h, if_pos h]
          · rw [if_neg h, if_neg h]
        rcases hw with ⟨hr, _⟩ | ⟨hr, _, hst⟩
        · rw [if_pos hr, hg]
          simp only [if_pos q3]
          exact hfin
        · rw [if_neg (by rw [hr]; decide), if_pos q3, if_neg hst, hg]
          simp only
          exact hfin
      refine ⟨fun c0 σ hs h8 => ?_, fun c0 s fl hf => ?_, fun k0 hk0 s σ hs h8 h7 => ?_⟩
      · obtain ⟨c1, m, cc, s, o, a1, a2, a3⟩ := yC σ hs h8
        obtain ⟨c2, m2, cc2, s2, o2, b1, b2, b3⟩ := iC (q_max c0 c1) (zu4 σ.1 m cc s o, σ.2) (sO_u4 hs) a2
        refine ⟨c2, m2, cc2, s2, o2, ?_, b2, fun h => b3 (a3 h)⟩
        show sp_Tk_performBeside_8 G (N2 + 1) v1 b c0 (some y.1.2) σ = _
        rw [c_go c0 σ c1 m cc s o hs.1 hs.2.1 a1]
        have b1' : sp_Tk_performBeside_8 G N2 v1 b (q_max c0 c1) c' (zu4 σ.1 m cc s o, σ.2) = _ := b1
        rw [b1', u4_u4]
      · obtain ⟨c1, s1, fl1, a1, a2, a3⟩ := yR s fl hf
        obtain ⟨c2, s2, fl2, b1, b2, b3⟩ := iR (if c1 ≤ c0 then c0 else c1) s1 fl1 a2
        exact ⟨c2, s2, fl2, by show gw_pl g T S res K (N + 1) y.1.1 c0 s fl = _; rw [r_go c0 s fl c1 s1 fl1 a1]; exact b1, b2, fun h => b3 (a3 h)⟩
      · show ∃ c s' fl' c'' m cc s7 o, gw_pl g T S res K (N + 1) y.1.1 (Int32.ofNat k0) s 0 = some (c, s', fl') ∧ sp_Tk_performBeside_8 G (N2 + 1) v1 b (Int32.ofNat k0) (some y.1.2) σ = some (c'', (zu4 σ.1 m cc s7 o, σ.2)) ∧ _
        obtain ⟨c1, s1, fl1, c1', m, cc, s7, o, a1, a2, a3⟩ := yJ s σ hs h8 h7
        rw [r_go _ s 0 c1 s1 fl1 a1, c_go _ σ c1' m cc s7 o hs.1 hs.2.1 a2]
        rcases a3 with ⟨b1, b2, b3, b4, k1, d1, d2, d3, d4, d5⟩ | ⟨b1, b2⟩
        · subst b1 b2 b3 b4
          have hmx : q_max (Int32.ofNat k0) c1' = Int32.ofNat (max k0 k1) := by rw [d1]; exact mx_c (by omega) (by omega)
          have hif : (if c1' ≤ Int32.ofNat k0 then Int32.ofNat k0 else c1') = Int32.ofNat (max k0 k1) := by
            rw [d1]
            by_cases h : k1 ≤ k0
            · rw [if_pos ((le_c (by omega) (by omega)).mpr h), Nat.max_eq_left h]
            · rw [if_neg (fun e => h ((le_c (by omega) (by omega)).mp e)), Nat.max_eq_right (by omega)]
          obtain ⟨c2, s2, fl2, c3, m2, cc2, s3, o2, p1, p2, p3⟩ := iJ (max k0 k1) (by omega) s7 (zu4 σ.1 m cc s7 0, σ.2) (sO_u4 hs) rfl rfl
          have p1' : gw_pl g T S res K N (T 24 y.1.1.toNatClampNeg) (Int32.ofNat (max k0 k1)) s7 0 = _ := p1
          have p2' : sp_Tk_performBeside_8 G N2 v1 b (Int32.ofNat (max k0 k1)) c' (zu4 σ.1 m cc s7 0, σ.2) = _ := p2
          rw [hmx, hif, p1', p2', u4_u4]
          refine ⟨c2, s2, fl2, c3, m2, cc2, s3, o2, rfl, rfl, ?_⟩
          rcases p3 with ⟨w1, w2, w3, zw4, kk, g1, g2, g3, g4, g5, g6⟩ | w
          · refine Or.inl ⟨w1, w2, w3, zw4, kk, g1, g2, by omega, fun i hi => ?_, fun h1 => ?_, fun hr O hO hb => ?_⟩
            · rw [g4 i (by omega), d3 i (by omega)]
            · rcases g5 h1 with h | ⟨i, i1, i2, i3⟩
              · by_cases hk0 : k0 = 1
                · exact Or.inl hk0
                · obtain ⟨i, i1, i2, i3⟩ := d4 (max_one h hk0)
                  exact Or.inr ⟨i, by omega, by omega, by rw [g4 i (by omega)]; exact i3⟩
              · exact Or.inr ⟨i, by omega, by omega, i3⟩
            · exact g6 hr _ (os10_16 hO (h16 y (by simp))) (os10_on hO (h16 y (by simp)) hb (d5 hr))
          · exact Or.inr w
        · subst b1 b2
          obtain ⟨c2, s2, fl2, p1, p2, p3⟩ := iR (if c1 ≤ Int32.ofNat k0 then Int32.ofNat k0 else c1) s1 2 (Or.inr rfl)
          obtain ⟨c3, m3, cc3, s3, o3, r1, r2, r3⟩ := iC (q_max (Int32.ofNat k0) c1') (zu4 σ.1 m cc s7 1, σ.2) (sO_u4 hs) (Or.inr rfl)
          have r1' : sp_Tk_performBeside_8 G N2 v1 b (q_max (Int32.ofNat k0) c1') c' (zu4 σ.1 m cc s7 1, σ.2) = _ := r1
          exact ⟨c2, s2, fl2, c3, m3, cc3, s3, o3, p1, by rw [r1', u4_u4], Or.inr ⟨p3 rfl, r3 rfl⟩⟩
    rcases hrb with ⟨hr, hb⟩ | ⟨hr, hb⟩
    · exact go (Or.inl ⟨hr, hb⟩)
    · by_cases hst : T 25 y.1.1.toNatClampNeg &&& S = 0
      · have c_sk : ∀ (c0 : Int32) (σ : ck_S), σ.2.2.2.1 = E → σ.1 2 = S → sp_Tk_performBeside_8 G (N2 + 1) v1 b c0 (some y.1.2) σ = sp_Tk_performBeside_8 G N2 v1 b c0 c' σ := by
          intro c0 σ hE hS
          conv => lhs; unfold sp_Tk_performBeside_8
          simp only
          rw [if_pos hb, hE, if_pos (eo_ofI q4), hS, stands_eq hE q4, if_pos hst]
          simp only [if_true, hE, q5]
        have r_sk : ∀ (c0 s fl : Int32), gw_pl g T S res K (N + 1) y.1.1 c0 s fl = gw_pl g T S res K N (T 24 y.1.1.toNatClampNeg) (if (0 : Int32) ≤ c0 then c0 else 0) s fl := by
          intro c0 s fl
          conv => lhs; unfold gw_pl
          rw [if_neg hn1, if_neg (by rw [hr]; decide), if_pos q3, if_pos hst]
          by_cases h : (0 : Int32) ≤ c0
          · rw [if_pos h, if_pos h]
          · rw [if_neg h, if_neg h]
        refine ⟨fun c0 σ hs h8 => ?_, fun c0 s fl hf => ?_, fun k0 hk0 s σ hs h8 h7 => ?_⟩
        · show ∃ c m cc s o, sp_Tk_performBeside_8 G (N2 + 1) v1 b c0 (some y.1.2) σ = _ ∧ _
          rw [c_sk c0 σ hs.1 hs.2.1]
          exact iC c0 σ hs h8
        · show ∃ c s' fl', gw_pl g T S res K (N + 1) y.1.1 c0 s fl = _ ∧ _
          rw [r_sk]
          exact iR _ s fl hf
        · show ∃ c s' fl' c'' m cc s7 o, gw_pl g T S res K (N + 1) y.1.1 (Int32.ofNat k0) s 0 = some (c, s', fl') ∧ sp_Tk_performBeside_8 G (N2 + 1) v1 b (Int32.ofNat k0) (some y.1.2) σ = some (c'', (zu4 σ.1 m cc s7 o, σ.2)) ∧ _
          rw [c_sk _ σ hs.1 hs.2.1, r_sk, if_pos (by rw [Int32.le_iff_toInt_le, show (0 : Int32).toInt = 0 from rfl, Int32.toInt_ofNat_of_lt (by omega)]; omega)]
          obtain ⟨c2, s2, fl2, c3, m2, cc2, s3, o2, p1, p2, p3⟩ := iJ k0 hk0 s σ hs h8 h7
          refine ⟨c2, s2, fl2, c3, m2, cc2, s3, o2, p1, p2, ?_⟩
          rcases p3 with ⟨w1, w2, w3, zw4, kk, g1, g2, g3, g4, g5, g6⟩ | w
          · refine Or.inl ⟨w1, w2, w3, zw4, kk, g1, g2, g3, fun i hi => g4 i (by omega), fun h1 => ?_, fun h => by rw [hr] at h; exact absurd h (by decide)⟩
            rcases g5 h1 with h | ⟨i, i1, i2, i3⟩
            · exact Or.inl h
            · exact Or.inr ⟨i, by omega, by omega, i3⟩
          · exact Or.inr w
      · exact go (Or.inr ⟨hr, hb, hst⟩)
theorem gr_1l {x : Int32} (hx : b16 x) : oS 10 1 x = x := by
  unfold oS
  rw [if_neg (by decide), if_pos rfl, gr_eq b16_1 hx]
  have : q_Codes_greater 1 x = q_Codes_greater x 1 := by
    unfold q_Codes_greater
    rw [Int32.or_comm]
  rw [this, ← gr_eq hx b16_1, gr_1 hx]
theorem ps_10 {x : kd_R} {t : Nat} {xs : List kd_R} {c : Option Nat} (ht : t < 20) (hp : gi x.1.1 2600 = true) (hk : T 20 x.1.1.toNatClampNeg = 10) (e0 : egI E x.1.2 2 0 = some 10) (hc : chn T E (xs.map (fun y => y.1)) (T 23 x.1.1.toNatClampNeg) c) (e2 : egR E x.1.2 2 2 = some c) (hne : xs ≠ []) (hlen : xs.length ≤ 2600) (hz : pz xs x.2.2.2.1 x.2.2.2.2) (hle : ∀ y ∈ xs, y.2.2.2.1 ≤ y.2.2.2.2) (h16 : ∀ y ∈ xs, b16 (T 26 y.1.1.toNatClampNeg)) (ho : zoN T x.1.1.toNatClampNeg xs) (hP : ∀ z ∈ xs, zPS T S E β g G Γ t z) : zPS T S E β (gwF T S f g) (sp_Tk_perform G) Γ t x := by
  intro K th mi hK hkn res b hrb
  have hrb' : res = 0 ∧ b = 1 ∨ res = 1 ∧ b = 0 := by
    rcases hrb with h | ⟨h1, h2, _⟩
    · exact Or.inl h
    · exact Or.inr ⟨h1, h2⟩
  obtain ⟨iC, iR, iJ⟩ := bes_p ht hK hkn hrb' xs _ _ _ c 2601 2601 (some x.1.2) hc hz hle h16 (by omega) (by omega) hP
  refine PT_eq ⟨iC 0, iR 0, iJ 0 (by omega)⟩ (fun σ hs => ?_) (fun s fl _ => ?_) (fun s c1 s' h => ?_)
  · have : sp_Tk_performBeside G (some x.1.2) b σ = sp_Tk_performBeside_8 G 2601 (some x.1.2) b 0 c σ := by
      unfold sp_Tk_performBeside
      simp only [hs.1, e2]
    unfold sp_Tk_perform
    simp only [hs.1, e0, this]
    simp
    cases sp_Tk_performBeside_8 G 2601 (some x.1.2) b 0 c σ <;> rfl
  · rw [gwF_p hp]
    unfold gw_go
    simp only [hk]
    simp
    unfold gw_pr
    rw [if_pos hp]
  · obtain ⟨k, g1, g2, g3, g4, g5, g6⟩ := h
    refine ⟨k, g1, g2, g4, fun h1 => ?_, fun hr => ?_⟩
    · rcases g5 h1 with h | h
      · omega
      · exact h
    · cases xs with
      | nil => exact absurd rfl hne
      | cons y ys =>
        have ho' : T 26 x.1.1.toNatClampNeg = oE (T 20 x.1.1.toNatClampNeg) (ys.foldl (fun c y => oS (T 20 x.1.1.toNatClampNeg) c (T 26 y.1.1.toNatClampNeg)) (T 26 y.1.1.toNatClampNeg)) := ho
        rw [hk] at ho'
        rw [ho']
        unfold oE
        rw [if_neg (by decide), if_neg (by decide)]
        have h2 := g6 hr 1 b16_1 (by rw [bt_1]; rfl)
        rw [List.foldl_cons, gr_1l (h16 y (by simp))] at h2
        exact h2
end P6
section N2
variable {T : mw_A} {S : Int32} {E : ck_E} {β : Nat → Int32}
theorem b16_low {x : Int32} (h : b16 x) : b16 (q_low x) := by rw [low_eq h]; exact b16_bT h
theorem b16_oS {kd c o : Int32} (hc : b16 c) (ho : b16 o) : b16 (oS kd c o) := by
  unfold oS
  by_cases h3 : kd = 3
  · rw [if_pos h3]; exact b16_or hc ho
  · rw [if_neg h3]
    by_cases h10 : kd = 10
    · rw [if_pos h10, gr_eq hc ho]; exact b16_gr hc ho
    · rw [if_neg h10]
      by_cases h9 : kd = 9
      · rw [if_pos h9]
        by_cases h1 : c &&& 1 = 0
        · rw [if_pos h1]; exact hc
        · rw [if_neg h1]; exact b16_or (b16_andl hc) ho
      · rw [if_neg h9]; exact hc
theorem b16_oE {kd c : Int32} (hc : b16 c) : b16 (oE kd c) := by
  unfold oE
  by_cases h6 : kd = 6
  · rw [if_pos h6]; exact b16_low hc
  · rw [if_neg h6]
    by_cases h4 : kd = 4
    · rw [if_pos h4]; exact b16_andl hc
    · rw [if_neg h4]; exact hc
theorem b16_fold {kd : Int32} (F : kd_R → Int32) : ∀ (xs : List kd_R) (O : Int32), b16 O → (∀ y ∈ xs, b16 (F y)) → b16 (xs.foldl (fun c y => oS kd c (F y)) O) := by
  intro xs
  induction xs with
  | nil => intro O h _; exact h
  | cons y ys ih => intro O h hy; exact ih _ (b16_oS h (hy y (by simp))) (fun z hz => hy z (List.mem_cons_of_mem _ hz))
theorem nR_16 : ∀ (n : Nat) (Γ : Nat → Bool) (t : Nat) (x : kd_R), nR T E β n Γ t x → b16 (T 26 x.1.1.toNatClampNeg) := by
  intro n
  induction n with
  | zero => intro Γ t x h; exact absurd h id
  | succ n ih =>
    intro Γ t x h
    obtain ⟨hp, _, _, _, _, e0, e3, _, _, _, hm, vl, c, kids, e1, e2, hch, hlen, hk, _, hz, ho, hkc, ht14⟩ := h
    cases kids with
    | nil =>
      have ho' : T 26 x.1.1.toNatClampNeg = (if T 20 x.1.1.toNatClampNeg = 7 then (1 : Int32) <<< (T 22 x.1.1.toNatClampNeg &&& 31) else if T 20 x.1.1.toNatClampNeg = 1 then 2 else 1) := ho
      rw [ho']
      by_cases h7 : T 20 x.1.1.toNatClampNeg = 7
      · rw [if_pos h7]
        rcases hkc with ⟨hd, _⟩ | ⟨hd, _⟩ | ⟨hd, _⟩ | ⟨hd, _⟩ | ⟨hd, _⟩ | ⟨hd, _⟩ | ⟨hd, _⟩ | ⟨hd, hk0, kk, k1, kt, k2, k3, k4⟩ | ⟨hd, _⟩ | ⟨hd, _⟩ | ⟨hd, _⟩
        all_goals first | (rw [hd] at h7; exact absurd h7 (by decide)) | skip
        rw [k3]
        exact b16_p2 k2
      · rw [if_neg h7]
        by_cases h1 : T 20 x.1.1.toNatClampNeg = 1
        · rw [if_pos h1]; exact b16_2
        · rw [if_neg h1]; exact b16_1
    | cons y ys =>
      have ho' : T 26 x.1.1.toNatClampNeg = oE (T 20 x.1.1.toNatClampNeg) (ys.foldl (fun c y => oS (T 20 x.1.1.toNatClampNeg) c (T 26 y.1.1.toNatClampNeg)) (T 26 y.1.1.toNatClampNeg)) := ho
      rw [ho']
      exact b16_oE (b16_fold _ _ _ (ih _ _ _ (hk y (by simp)).2.2.2.2.2) (fun z hz => ih _ _ _ (hk z (List.mem_cons_of_mem _ hz)).2.2.2.2.2))
theorem nR_uv {n t : Nat} {Γ : Nat → Bool} {x : kd_R} (h : nR T E β n Γ t x) : x.2.2.2.1 ≤ x.2.2.2.2 := by
  cases n with
  | zero => exact absurd h id
  | succ n => exact h.2.2.2.2.2.2.2.2.1
theorem nR_gi {n t : Nat} {Γ : Nat → Bool} {x : kd_R} (h : nR T E β n Γ t x) : gi x.1.1 2600 = true := by
  cases n with
  | zero => exact absurd h id
  | succ n => exact h.1
theorem ps_nR (hO : bO β) : ∀ (n : Nat) (Γ : Nat → Bool) (t : Nat) (x : kd_R), nR T E β n Γ t x → n < 200 → ∀ n1 n2, n < n1 → n < n2 → zPS T S E β (gw T S n1) (tp n2) Γ t x := by
  intro n
  induction n with
  | zero => intro Γ t x h; exact absurd h id
  | succ n ih =>
    intro Γ t x h h200 n1 n2 hn1 hn2
    obtain ⟨n1, rfl⟩ : ∃ m, n1 = m + 1 := ⟨n1 - 1, by omega⟩
    obtain ⟨n2, rfl⟩ : ∃ m, n2 = m + 1 := ⟨n2 - 1, by omega⟩
    obtain ⟨hp, _, _, _, _, e0, e3, _, _, _, hm, vl, c, kids, e1, e2, hch, hlen, hk, _, hz, ho, hkc, ht14⟩ := h
    rw [gw_su, tp_su]
    have hN : ∀ y ∈ kids, nR T E β n (gN T Γ x.1.1.toNatClampNeg) (ztN T t x.1.1.toNatClampNeg) y := fun y hy => (hk y hy).2.2.2.2.2
    have hP : ∀ y ∈ kids, zPS T S E β (gw T S n1) (tp n2) (gN T Γ x.1.1.toNatClampNeg) (ztN T t x.1.1.toNatClampNeg) y := fun y hy => ih _ _ _ (hN y hy) (by omega) _ _ (by omega) (by omega)
    have hst : T 20 x.1.1.toNatClampNeg ≠ 1 → T 25 x.1.1.toNatClampNeg &&& S ≠ 0 → ∃ z ∈ kids.map (fun y => y.1), T 25 z.1.toNatClampNeg &&& S ≠ 0 := fun h1 hs => stands_kid hm (hz h1) hN hs
    have one : ∀ y : kd_R, kids = [y] → T 20 x.1.1.toNatClampNeg ≠ 1 → T 23 x.1.1.toNatClampNeg = y.1.1 ∧ c = some y.1.2 ∧ (T 25 x.1.1.toNatClampNeg &&& S ≠ 0 → T 25 y.1.1.toNatClampNeg &&& S ≠ 0) ∧ pz [y] x.2.2.2.1 x.2.2.2.2 ∧ T 26 x.1.1.toNatClampNeg = oE (T 20 x.1.1.toNatClampNeg) (T 26 y.1.1.toNatClampNeg) := by
      intro y hy h1
      have hz' := hz h1
      have hst' := hst h1
      rw [hy] at hch hz' ho hst'
      refine ⟨hch.1, hch.2.1, fun hs => ?_, hz', ho⟩
      obtain ⟨z, hz, hq⟩ := hst' hs
      rw [List.mem_singleton.mp hz] at hq
      exact hq
    have gn : T 20 x.1.1.toNatClampNeg ≠ 8 → gN T Γ x.1.1.toNatClampNeg = Γ := fun h => if_neg h
    have tn : T 20 x.1.1.toNatClampNeg ≠ 6 → ztN T t x.1.1.toNatClampNeg = t := fun h => if_neg h
    have oe : T 20 x.1.1.toNatClampNeg ≠ 6 → T 20 x.1.1.toNatClampNeg ≠ 4 → ∀ z, oE (T 20 x.1.1.toNatClampNeg) z = z := by
      intro h6 h4 z
      unfold oE
      rw [if_neg h6, if_neg h4]
    rcases hkc with ⟨hd, hk0⟩ | ⟨hd, hk0, hv, hv2⟩ | ⟨hd, hk0, hl⟩ | ⟨hd, hk0, hl⟩ | ⟨hd, hk0, hl0⟩ | ⟨hd, hk0, hl⟩ | ⟨hd, hk0⟩ | ⟨hd, hk0, kk, k1, kt, k2, k3, k4⟩ | ⟨hd, hk0, hl⟩ | ⟨hd, hk0⟩ | ⟨hd, hk0⟩
    · rw [hk0] at ho
      refine ps_0 hp (Or.inl hd) e0 (Eq.trans ho ?_)
      rw [hd]; rfl
    · rw [hk0] at ho
      refine ps_1 hp hd (by rw [e0, hd]) (by rw [e1, hv2]) hv hm (Eq.trans ho ?_)
      rw [hd]; rfl
    · rw [hk0] at ho
      refine ps_0 hp (Or.inr hd) e0 (Eq.trans ho ?_)
      rw [hd]; rfl
    · obtain ⟨j, hj, l1, l2, l3, l4⟩ := hl
      obtain ⟨y, z, hyz⟩ := len2 hk0
      rw [gn (by rw [hd]; decide), tn (by rw [hd]; decide)] at hP
      have hst' := hst (by rw [hd]; decide)
      have hz' := hz (by rw [hd]; decide)
      rw [hyz] at hP hst' hch hz' ho hN
      have hc : c = some y.1.2 := hch.2.1
      rw [hc] at hch e2
      have ho' : T 26 x.1.1.toNatClampNeg = T 26 y.1.1.toNatClampNeg ||| T 26 z.1.1.toNatClampNeg := by
        have h1 : T 26 x.1.1.toNatClampNeg = oE (T 20 x.1.1.toNatClampNeg) (oS (T 20 x.1.1.toNatClampNeg) (T 26 y.1.1.toNatClampNeg) (T 26 z.1.1.toNatClampNeg)) := ho
        rw [oe (by rw [hd]; decide) (by rw [hd]; decide)] at h1
        rw [h1, hd]
        unfold oS
        rw [if_pos rfl]
      exact ps_3 hp hd (by rw [e0, hd]) hj l4 l1 (by rw [e1, l2]) hch e2 hst' hz' (nR_uv (hN y (by simp))) (nR_uv (hN z (by simp))) ho' (hP y (by simp)) (hP z (by simp))
    · obtain ⟨y, hy⟩ := len1 hk0
      obtain ⟨o1, o2, o3, o4, o5⟩ := one y hy (by rw [hd]; decide)
      rw [gn (by rw [hd]; decide), tn (by rw [hd]; decide)] at hP
      refine ps_4 hp hd (by rw [e0, hd]) o1 (by rw [e2, o2]) o3 o4 (by omega) (hl0 y (by rw [hy]; simp)) ?_ (hP y (by rw [hy]; simp))
      rw [o5, hd]
      rfl
    · obtain ⟨j, hj, l1, l2, l3, l4⟩ := hl
      obtain ⟨y, hy⟩ := len1 hk0
      obtain ⟨o1, o2, o3, o4, o5⟩ := one y hy (by rw [hd]; decide)
      rw [gn (by rw [hd]; decide), tn (by rw [hd]; decide)] at hP
      rw [oe (by rw [hd]; decide) (by rw [hd]; decide)] at o5
      exact ps_5 hp hd (by rw [e0, hd]) e3 hm hj l4 l1 (by rw [e1, l2]) o1 (by rw [e2, o2]) o3 o4 o5 (hP y (by rw [hy]; simp))
    · obtain ⟨y, hy⟩ := len1 hk0
      obtain ⟨o1, o2, o3, o4, o5⟩ := one y hy (by rw [hd]; decide)
      have ht1 : ztN T t x.1.1.toNatClampNeg = t + 1 := if_pos hd
      rw [gn (by rw [hd]; decide), ht1] at hP
      have hy' := hN y (by rw [hy]; simp)
      refine ps_6 hp hd (by rw [e0, hd]) e3 hm (nR_mask hy') (nR_gi hy') o1 (by rw [e2, o2]) o3 o4 (by omega) (nR_16 _ _ _ _ hy') ?_ (hP y (by rw [hy]; simp))
      rw [o5, hd]
      rfl
    · rw [hk0] at ho
      refine ps_7 hp hd (by rw [e0, hd]) k1 kt k2 k3 (by rw [e1, k4]) (Eq.trans ho ?_)
      rw [hd, if_pos rfl]
    · obtain ⟨j, hj, l1, l2, l3, l4⟩ := hl
      obtain ⟨y, hy⟩ := len1 hk0
      obtain ⟨o1, o2, o3, o4, o5⟩ := one y hy (by rw [hd]; decide)
      have hg : gN T Γ x.1.1.toNatClampNeg = zext Γ j := by
        unfold gN
        rw [if_pos hd, l1, cl_of (by omega)]
      rw [hg, tn (by rw [hd]; decide)] at hP
      rw [oe (by rw [hd]; decide) (by rw [hd]; decide)] at o5
      have hy' := hN y (by rw [hy]; simp)
      rw [hg] at hy'
      exact ps_8 hp hd (by rw [e0, hd]) hj l4 l1 (by rw [e1, l2]) hO l3 o1 (by rw [e2, o2]) o3 o4 o5 (ws_nR hO n _ _ y hy' n1 200 (by omega) (by omega)) (hP y (by rw [hy]; simp))
    · rw [gn (by rw [hd]; decide), tn (by rw [hd]; decide)] at hP
      exact ps_9 (by omega) hp hd (by rw [e0, hd]) hch e2 (by intro e; rw [e] at hk0; simp at hk0) hlen (hst (by rw [hd]; decide)) (hz (by rw [hd]; decide)) (fun y hy => nR_uv (hN y hy)) ho hP
    · rw [gn (by rw [hd]; decide), tn (by rw [hd]; decide)] at hP
      exact ps_10 (by omega) hp hd (by rw [e0, hd]) hch e2 (by intro e; rw [e] at hk0; simp at hk0) hlen (hz (by rw [hd]; decide)) (fun y hy => nR_uv (hN y hy)) (fun y hy => nR_16 _ _ _ _ (hN y hy)) ho hP
end N2
