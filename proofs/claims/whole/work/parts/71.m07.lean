section W3
variable {T : mw_A} {S : Int32} {E : ck_E} {β : Nat → Int32} {f : mw_F} {g : tw_G} {Γ : Nat → Bool} {th mi : Int32} {K : Nat → Int32}
theorem bh_u {p : Int32} {a : Nat} (hW : WS T S E β f g Γ p a) (hK : Kn β Γ K th mi) {ac : Int64} (hac : b16 (co ac)) (hc0 : bt (co ac) 0 = true) {σ : ck_S} (hE : σ.2.2.2.1 = E) (hS : σ.1 2 = S) (h3 : σ.1 3 = th) (h4 : σ.1 4 = mi) {Bm Bc : Nat → Bool} (hm : ∀ j, j < 26 → nz β (σ.1 5) j = Bm j) (hc : ∀ j, j < 26 → nz β (σ.1 6) j = (Bc j || sg ac j)) :
    ∃ y m c, f true p 0 0 K = some y ∧ b16 (co (q_behind ac y)) ∧ sp_Tk_weighBehind g (q_Codes_pair 0 (co ac)) (some a) 0 σ = some (q_Codes_pair 0 (co (q_behind ac y)), (upd (upd σ.1 5 m) 6 c, σ.2)) ∧ (∀ j, j < 26 → nz β m j = Bm j) ∧ (∀ j, j < 26 → nz β c j = (Bc j || sg (q_behind ac y) j)) := by
  obtain ⟨_, ⟨uc, u1, u2, u3⟩⟩ := hW K th mi hK 0 1 (Or.inl ⟨rfl, rfl⟩)
  have hcan : ¬ (q_Codes_canOf (q_Codes_pair 0 (co ac)) &&& 1 = 0) := by
    rw [can0 hac, hc0]
    simp
  obtain ⟨m, c, r1, r2, r3⟩ := u3 σ hE hS h3 h4
  refine ⟨uc, m, c, u1, ?_, ?_, ?_, ?_⟩
  · rw [co_bh]; exact b16_or (b16_andl hac) u2
  · unfold sp_Tk_weighBehind
    rw [if_neg hcan, if_pos rfl]
    rw [r1]
    simp only
    rw [must_pair b16_0 hac, can_pair hac, can_pair u2, co_bh]
  · intro j hj
    rw [r2 j hj, hm j hj, Bool.or_false]
  · intro j hj
    rw [r3 j hj, hc j hj, sg_bh hj, Bool.or_assoc]
theorem row_u (hK : Kn β Γ K th mi) : ∀ (xs : List (Int32 × Nat)) (k : Int32) (c : Option Nat) (N1 N2 : Nat) (ac : Int64) (v1 : Option Nat) (v2 : Int32) (v4 : Option Nat) (σ : ck_S) (Bm Bc : Nat → Bool), chn T E xs k c → xs.length < N1 → xs.length < N2 → (∀ x ∈ xs, WS T S E β f g Γ x.1 x.2) → b16 (co ac) → σ.2.2.2.1 = E → σ.1 2 = S → σ.1 3 = th → σ.1 4 = mi → (∀ j, j < 26 → nz β (σ.1 5) j = Bm j) → (∀ j, j < 26 → nz β (σ.1 6) j = (Bc j || sg ac j)) →
    ∃ rc m' c', mw_cs f T K N1 k ac 0 = some rc ∧ b16 (co rc) ∧ sp_Tk_weighRow_47 g N2 v1 v2 0 v4 (q_Codes_pair 0 (co ac)) c σ = some (q_Codes_pair 0 (co rc), (upd (upd σ.1 5 m') 6 c', σ.2)) ∧ (∀ j, j < 26 → nz β m' j = Bm j) ∧ (∀ j, j < 26 → nz β c' j = (Bc j || sg rc j)) := by
  intro xs
  induction xs with
  | nil =>
    intro k c N1 N2 ac v1 v2 v4 σ Bm Bc hc hN1 hN2 hW hck hE hS h3 h4 hm hcc
    obtain ⟨N1, rfl⟩ : ∃ M, N1 = M + 1 := ⟨N1 - 1, by simp at hN1; omega⟩
    obtain ⟨N2, rfl⟩ : ∃ M, N2 = M + 1 := ⟨N2 - 1, by simp at hN2; omega⟩
    obtain ⟨rfl, rfl⟩ := hc
    refine ⟨ac, σ.1 5, σ.1 6, ?_, hck, ?_, hm, hcc⟩
    · unfold mw_cs; rw [if_pos rfl]
    · rw [upd_self, upd_self]; rfl
  | cons x xs ih =>
    intro k c N1 N2 ac v1 v2 v4 σ Bm Bc hc hN1 hN2 hW hck hE hS h3 h4 hm hcc
    obtain ⟨N1, rfl⟩ : ∃ M, N1 = M + 1 := ⟨N1 - 1, by simp at hN1; omega⟩
    obtain ⟨N2, rfl⟩ : ∃ M, N2 = M + 1 := ⟨N2 - 1, by simp at hN2; omega⟩
    have hc' := hc
    obtain ⟨q1, q2, q3, q4, c', q5, q6⟩ := hc
    cases hc0 : bt (co ac) 0 with
    | false =>
      refine ⟨ac, σ.1 5, σ.1 6, cs_stop hc0, hck, ?_, hm, hcc⟩
      rw [upd_self, upd_self]
      exact row_idle _ _ _ _ _ _ _ _ _ _ hc' hN2 hE ((can0 hck).mpr hc0)
    | true =>
      subst q1 q2
      have hx : WS T S E β f g Γ x.1 x.2 := hW x (List.mem_cons_self ..)
      obtain ⟨y, m, cc, y1, y2, y3, y4, y5⟩ := bh_u hx hK hck hc0 hE hS h3 h4 hm hcc
      have hn1 := gi_n1 q3
      have hC : q_hasC ac 0 ≠ 0 := by rw [hasC_eq, hc0]; decide
      obtain ⟨rc, m', c2, i2, i3, i4, i5, i6⟩ := ih _ c' N1 N2 (q_behind ac y) v1 v2 v4 (upd (upd σ.1 5 m) 6 cc, σ.2) Bm Bc q6 (by simp at hN1; omega) (by simp at hN2; omega) (fun z hz => hW z (List.mem_cons_of_mem _ hz)) y2 hE hS h3 h4 y4 y5
      refine ⟨rc, m', c2, ?_, i3, ?_, i5, i6⟩
      · unfold mw_cs
        rw [if_neg hn1, if_neg hC, y1]
        simp only
        rw [if_pos trivial, if_pos q3]
        exact i2
      · unfold sp_Tk_weighRow_47
        simp only
        rw [y3]
        simp only [hE, q5]
        rw [i4, up56]
theorem gr_1 {x : Int32} (hx : b16 x) : q_gr x 1 = x := by
  rw [gr_eq hx b16_1]
  apply bt_ext
  intro i hi
  rw [Bool.eq_iff_iff, bt_gr]
  constructor
  · rintro (⟨h, _⟩ | ⟨h, j, hj, h2⟩)
    · exact h
    · rw [bt_1] at h
      simp at h
      subst h
      have : j = 0 := by omega
      rw [this] at h2
      exact h2
  · intro h
    exact Or.inl ⟨h, 0, by omega, by rw [bt_1]; simp⟩
theorem gr_10 {y : Int32} : q_Codes_greater y 0 = 0 := by
  apply bt_ext
  intro i _
  rw [bt_0]
  apply Bool.eq_false_iff.mpr
  rw [Ne, bt_gr]
  rintro (⟨h, j, hj, h2⟩ | ⟨h, j, hj, h2⟩)
  · rw [bt_0] at h2; cases h2
  · rw [bt_0] at h; cases h
theorem ckk_bs {am ac y z : Int64} (h : ckk am ac) (hy : ckk y z) : ckk (q_beside am y) (q_beside ac z) := by
  obtain ⟨h1, h2, h3, h4⟩ := h
  obtain ⟨k1, k2, k3, k4⟩ := hy
  refine ⟨?_, ?_, ?_, ?_⟩
  · rw [co_bs, gr_eq h1 k1]; exact b16_gr h1 k1
  · rw [co_bs, gr_eq h2 k2]; exact b16_gr h2 k2
  · rw [co_bs, gr_eq h1 k1]; exact am1_gr h3 k3
  · rw [co_bs, co_bs, gr_eq h1 k1, gr_eq h2 k2]; exact sub_gr h4 k4
theorem ckk_1 : ckk 1 1 := ⟨b16_1, b16_1, am1_1, sub_rf⟩
theorem bes_s (hK : Kn β Γ K th mi) {res b : Int32} (hrb : res = 0 ∧ b = 1 ∨ res = 1 ∧ b = 0) : ∀ (xs : List (Int32 × Nat)) (k : Int32) (c : Option Nat) (N N1 N2 : Nat) (am ac : Int64) (v1 : Option Nat) (σ : ck_S) (Bm Bc : Nat → Bool), chn T E xs k c → xs.length < N → xs.length < N1 → xs.length < N2 → (∀ x ∈ xs, WS T S E β f g Γ x.1 x.2) → ckk am ac → σ.2.2.2.1 = E → σ.1 2 = S → σ.1 3 = th → σ.1 4 = mi → (∀ j, j < 26 → nz β (σ.1 5) j = (Bm j || sg am j)) → (∀ j, j < 26 → nz β (σ.1 6) j = (Bc j || sg ac j)) →
    ∃ rm rc m' c', mw_pl (fun q => f false q res 0 K) T S res N k am = some rm ∧ mw_pl (fun q => f true q res 1 K) T S res N1 k ac = some rc ∧ ckk rm rc ∧ sp_Tk_weighBeside_12 g N2 v1 b 1 (co am) (co ac) c σ = some (q_Codes_pair (co rm) (co rc), (upd (upd σ.1 5 m') 6 c', σ.2)) ∧ (∀ j, j < 26 → nz β m' j = (Bm j || sg rm j)) ∧ (∀ j, j < 26 → nz β c' j = (Bc j || sg rc j)) := by
  intro xs
  induction xs with
  | nil =>
    intro k c N N1 N2 am ac v1 σ Bm Bc hc hN hN1 hN2 hW hck hE hS h3 h4 hm hcc
    obtain ⟨N, rfl⟩ : ∃ M, N = M + 1 := ⟨N - 1, by simp at hN; omega⟩
    obtain ⟨N1, rfl⟩ : ∃ M, N1 = M + 1 := ⟨N1 - 1, by simp at hN1; omega⟩
    obtain ⟨N2, rfl⟩ : ∃ M, N2 = M + 1 := ⟨N2 - 1, by simp at hN2; omega⟩
    obtain ⟨rfl, rfl⟩ := hc
    refine ⟨am, ac, σ.1 5, σ.1 6, ?_, ?_, hck, ?_, hm, hcc⟩
    · unfold mw_pl; rw [if_pos rfl]
    · unfold mw_pl; rw [if_pos rfl]
    · rw [upd_self, upd_self]; rfl
  | cons x xs ih =>
    intro k c N N1 N2 am ac v1 σ Bm Bc hc hN hN1 hN2 hW hck hE hS h3 h4 hm hcc
    obtain ⟨N, rfl⟩ : ∃ M, N = M + 1 := ⟨N - 1, by simp at hN; omega⟩
    obtain ⟨N1, rfl⟩ : ∃ M, N1 = M + 1 := ⟨N1 - 1, by simp at hN1; omega⟩
    obtain ⟨N2, rfl⟩ : ∃ M, N2 = M + 1 := ⟨N2 - 1, by simp at hN2; omega⟩
    obtain ⟨q1, q2, q3, q4, c', q5, q6⟩ := hc
    subst q1 q2
    have hn1 := gi_n1 q3
    have hx : WS T S E β f g Γ x.1 x.2 := hW x (List.mem_cons_self ..)
    have go : (res = 0 ∧ b = 1 ∨ res = 1 ∧ b = 0 ∧ T 25 x.1.toNatClampNeg &&& S ≠ 0) → ∃ rm rc m' c', mw_pl (fun q => f false q res 0 K) T S res (N + 1) x.1 am = some rm ∧ mw_pl (fun q => f true q res 1 K) T S res (N1 + 1) x.1 ac = some rc ∧ ckk rm rc ∧ sp_Tk_weighBeside_12 g (N2 + 1) v1 b 1 (co am) (co ac) (some x.2) σ = some (q_Codes_pair (co rm) (co rc), (upd (upd σ.1 5 m') 6 c', σ.2)) ∧ (∀ j, j < 26 → nz β m' j = (Bm j || sg rm j)) ∧ (∀ j, j < 26 → nz β c' j = (Bc j || sg rc j)) := by
      intro hw
      obtain ⟨⟨xm, xc, e1, e2, e3, e4⟩, _⟩ := hx K th mi hK res b hw
      obtain ⟨m, cc, r1, r2, r3⟩ := e4 σ hE hS h3 h4
      obtain ⟨rm, rc, m', c2, i1, i2, i3, i4, i5, i6⟩ := ih _ c' N N1 N2 (q_beside am xm) (q_beside ac xc) v1 (upd (upd σ.1 5 m) 6 cc, σ.2) Bm Bc q6 (by simp at hN; omega) (by simp at hN1; omega) (by simp at hN2; omega) (fun z hz => hW z (List.mem_cons_of_mem _ hz)) (ckk_bs hck e3) hE hS h3 h4 (fun j hj => by
        show nz β m j = _
        rw [r2 j hj, hm j hj, sg_bs hj, Bool.or_assoc]) (fun j hj => by
        show nz β cc j = _
        rw [r3 j hj, hcc j hj, sg_bs hj, Bool.or_assoc])
      have hgm : q_Codes_greater (co am) (q_Codes_mustOf (q_Codes_pair (co xm) (co xc))) = co (q_beside am xm) := by rw [must_pair e3.1 e3.2.1, co_bs, gr_eq hck.1 e3.1]
      have hgc : q_Codes_greater (co ac) (q_Codes_canOf (q_Codes_pair (co xm) (co xc))) = co (q_beside ac xc) := by rw [can_pair e3.2.1, co_bs, gr_eq hck.2.1 e3.2.1]
      refine ⟨rm, rc, m', c2, ?_, ?_, i3, ?_, i5, i6⟩
      · unfold mw_pl
        rw [if_neg hn1]
        rcases hw with ⟨hr, _⟩ | ⟨hr, _, hst⟩
        · simp only [if_pos hr, e1, if_pos q3]
          exact i1
        · rw [if_neg (by rw [hr]; decide), if_pos q3, if_neg hst]
          simp only [e1, if_pos q3]
          exact i1
      · unfold mw_pl
        rw [if_neg hn1]
        rcases hw with ⟨hr, _⟩ | ⟨hr, _, hst⟩
        · simp only [if_pos hr, e2, if_pos q3]
          exact i2
        · rw [if_neg (by rw [hr]; decide), if_pos q3, if_neg hst]
          simp only [e2, if_pos q3]
          exact i2
      · unfold sp_Tk_weighBeside_12
        simp only
        rcases hw with ⟨_, hb⟩ | ⟨_, hb, hst⟩
        · rw [if_neg (by rw [hb]; decide), r1]
          simp only [hE, q5]
          rw [hgm, hgc, i4, up56]
        · rw [if_pos hb, hE, if_pos (eo_ofI q4), hS, stands_eq hE q4, if_neg hst]
          simp only
          rw [if_neg (by decide), r1]
          simp only [hE, q5]
          rw [hgm, hgc, i4, up56]
    rcases hrb with ⟨hr, hb⟩ | ⟨hr, hb⟩
    · exact go (Or.inl ⟨hr, hb⟩)
    · by_cases hst : T 25 x.1.toNatClampNeg &&& S = 0
      · have c1 : co (q_beside am 1) = co am := by rw [co_bs, cz_1, gr_1 hck.1]
        have c2 : co (q_beside ac 1) = co ac := by rw [co_bs, cz_1, gr_1 hck.2.1]
        obtain ⟨rm, rc, m', c2', i1, i2, i3, i4, i5, i6⟩ := ih _ c' N N1 N2 (q_beside am 1) (q_beside ac 1) v1 σ Bm Bc q6 (by simp at hN; omega) (by simp at hN1; omega) (by simp at hN2; omega) (fun z hz => hW z (List.mem_cons_of_mem _ hz)) (ckk_bs hck ckk_1) hE hS h3 h4 (fun j hj => by
          rw [hm j hj, sg_bs hj, sg_1, Bool.or_false]) (fun j hj => by
          rw [hcc j hj, sg_bs hj, sg_1, Bool.or_false])
        rw [c1, c2] at i4
        refine ⟨rm, rc, m', c2', ?_, ?_, i3, ?_, i5, i6⟩
        · unfold mw_pl
          rw [if_neg hn1, if_neg (by rw [hr]; decide), if_pos q3, if_pos hst]
          simp only [if_pos q3]
          exact i1
        · unfold mw_pl
          rw [if_neg hn1, if_neg (by rw [hr]; decide), if_pos q3, if_pos hst]
          simp only [if_pos q3]
          exact i2
        · unfold sp_Tk_weighBeside_12
          simp only
          rw [if_pos hb, hE, if_pos (eo_ofI q4), hS, stands_eq hE q4, if_pos hst]
          simp only [if_true, hE, q5]
          exact i4
      · exact go (Or.inr ⟨hr, hb, hst⟩)
end W3
