section W2
variable {T : mw_A} {S : Int32} {E : ck_E} {β : Nat → Int32} {f : mw_F} {g : tw_G} {Γ : Nat → Bool} {th mi : Int32} {K : Nat → Int32}
theorem sq_stop {h : Int32 → Option Int64} {N : Nat} {k : Int32} {am : Int64} (h0 : bt (co am) 0 = false) : mw_sq h T (N + 1) k am = some am := by
  unfold mw_sq
  by_cases hk : k = -1
  · rw [if_pos hk]
  · rw [if_neg hk, hasC_eq, h0]
    simp
theorem cs_stop {N : Nat} {k : Int32} {ac : Int64} {s : Int32} (h0 : bt (co ac) 0 = false) : mw_cs f T K (N + 1) k ac s = some ac := by
  unfold mw_cs
  by_cases hk : k = -1
  · rw [if_pos hk]
  · rw [if_neg hk, hasC_eq, h0]
    simp
theorem bh_stop {v1 v3 : Int32} {v2 : Option Nat} {σ : ck_S} (h : q_Codes_canOf v1 &&& 1 = 0) : sp_Tk_weighBehind g v1 v2 v3 σ = some (v1, σ) := by
  unfold sp_Tk_weighBehind
  rw [if_pos h]
theorem row_idle : ∀ (xs : List (Int32 × Nat)) (k : Int32) (c : Option Nat) (N : Nat) (v1 : Option Nat) (v2 v3 : Int32) (v4 : Option Nat) (v5 : Int32) (σ : ck_S), chn T E xs k c → xs.length < N → σ.2.2.2.1 = E → q_Codes_canOf v5 &&& 1 = 0 → sp_Tk_weighRow_47 g N v1 v2 v3 v4 v5 c σ = some (v5, σ) := by
  intro xs
  induction xs with
  | nil =>
    intro k c N v1 v2 v3 v4 v5 σ hc hN hE h0
    obtain ⟨N, rfl⟩ : ∃ M, N = M + 1 := ⟨N - 1, by simp at hN; omega⟩
    obtain ⟨_, rfl⟩ := hc
    rfl
  | cons x xs ih =>
    intro k c N v1 v2 v3 v4 v5 σ hc hN hE h0
    obtain ⟨N, rfl⟩ : ∃ M, N = M + 1 := ⟨N - 1, by simp at hN; omega⟩
    obtain ⟨h1, h2, h3, h4, c', h5, h6⟩ := hc
    subst h1 h2
    unfold sp_Tk_weighRow_47
    simp only
    rw [bh_stop h0]
    simp only [hE, h5]
    exact ih _ _ N _ _ _ _ _ _ h6 (by simp at hN; omega) hE h0
theorem can0 {m : Int32} {c : Int64} (hc : b16 (co c)) : (q_Codes_canOf (q_Codes_pair m (co c)) &&& 1 = 0) ↔ bt (co c) 0 = false := by rw [can_pair hc, and1_bt]
theorem ckk_bh1 {am ac y : Int64} (h : ckk am ac) (h0 : bt (co am) 0 = false) (hy : b16 (co y)) : ckk am (q_behind ac y) := by
  obtain ⟨h1, h2, h3, h4⟩ := h
  refine ⟨h1, ?_, h3, fun i hi => ?_⟩
  · rw [co_bh]; exact b16_or (b16_andl h2) hy
  · rw [co_bh, bt_or, bt_and, h4 i hi, bt_m2]
    have : i ≠ 0 := fun e => by rw [e, h0] at hi; cases hi
    have h32 : i < 32 := Nat.lt_of_not_le fun h => by rw [bt_hi h] at hi; cases hi
    simp [this, h32]
theorem co_bh2 {am y : Int64} (h : am1 (co am)) (h0 : bt (co am) 0 = true) : co (q_behind am y) = co y := by
  rw [co_bh, am1_m2 h h0]
  apply bt_ext
  intro i _
  rw [bt_or, bt_0, Bool.false_or]
theorem ckk_bh2 {am ac y z : Int64} (h : ckk am ac) (h0 : bt (co am) 0 = true) (hy : ckk y z) : ckk (q_behind am y) (q_behind ac z) := by
  obtain ⟨h1, h2, h3, h4⟩ := h
  obtain ⟨k1, k2, k3, k4⟩ := hy
  refine ⟨?_, ?_, ?_, ?_⟩
  · rw [co_bh2 h3 h0]; exact k1
  · rw [co_bh]; exact b16_or (b16_andl h2) k2
  · rw [co_bh2 h3 h0]; exact k3
  · rw [co_bh2 h3 h0, co_bh]
    intro i hi
    rw [bt_or, k4 i hi, Bool.or_true]
theorem bh_s {p : Int32} {a : Nat} (hW : WS T S E β f g Γ p a) (hK : Kn β Γ K th mi) {am ac : Int64} (hck : ckk am ac) (hc0 : bt (co ac) 0 = true) {σ : ck_S} (hE : σ.2.2.2.1 = E) (hS : σ.1 2 = S) (h3 : σ.1 3 = th) (h4 : σ.1 4 = mi) {Bm Bc : Nat → Bool} (hm : ∀ j, j < 26 → nz β (σ.1 5) j = (Bm j || sg am j)) (hc : ∀ j, j < 26 → nz β (σ.1 6) j = (Bc j || sg ac j)) :
    (bt (co am) 0 = false → ∃ y m c, f true p 0 0 K = some y ∧ ckk am (q_behind ac y) ∧ sp_Tk_weighBehind g (q_Codes_pair (co am) (co ac)) (some a) 1 σ = some (q_Codes_pair (co am) (co (q_behind ac y)), (upd (upd σ.1 5 m) 6 c, σ.2)) ∧ (∀ j, j < 26 → nz β m j = (Bm j || sg am j)) ∧ (∀ j, j < 26 → nz β c j = (Bc j || sg (q_behind ac y) j))) ∧
    (bt (co am) 0 = true → ∃ z y m c, f false p 0 0 K = some z ∧ f true p 0 1 K = some y ∧ ckk (q_behind am z) (q_behind ac y) ∧ co (q_behind am z) = co z ∧ sp_Tk_weighBehind g (q_Codes_pair (co am) (co ac)) (some a) 1 σ = some (q_Codes_pair (co (q_behind am z)) (co (q_behind ac y)), (upd (upd σ.1 5 m) 6 c, σ.2)) ∧ (∀ j, j < 26 → nz β m j = (Bm j || sg (q_behind am z) j)) ∧ (∀ j, j < 26 → nz β c j = (Bc j || sg (q_behind ac y) j))) := by
  obtain ⟨⟨xm, xc, e1, e2, e3, e4⟩, ⟨uc, u1, u2, u3⟩⟩ := hW K th mi hK 0 1 (Or.inl ⟨rfl, rfl⟩)
  have hcan : ¬ (q_Codes_canOf (q_Codes_pair (co am) (co ac)) &&& 1 = 0) := by
    rw [can0 hck.2.1, hc0]
    simp
  constructor
  · intro h0
    obtain ⟨m, c, r1, r2, r3⟩ := u3 σ hE hS h3 h4
    refine ⟨uc, m, c, u1, ckk_bh1 hck h0 u2, ?_, ?_, ?_⟩
    · unfold sp_Tk_weighBehind
      rw [if_neg hcan, if_neg (by decide), if_pos (by rw [must_pair hck.1 hck.2.1, and1_bt]; exact h0)]
      rw [r1]
      simp only
      rw [must_pair hck.1 hck.2.1, can_pair hck.2.1, can_pair u2, co_bh]
    · intro j hj
      rw [r2 j hj, hm j hj, Bool.or_false]
    · intro j hj
      rw [r3 j hj, hc j hj, sg_bh hj, Bool.or_assoc]
  · intro h0
    obtain ⟨m, c, r1, r2, r3⟩ := e4 σ hE hS h3 h4
    refine ⟨xm, xc, m, c, e1, e2, ckk_bh2 hck h0 e3, co_bh2 hck.2.2.1 h0, ?_, ?_, ?_⟩
    · unfold sp_Tk_weighBehind
      rw [if_neg hcan, if_neg (by decide), if_neg (by rw [must_pair hck.1 hck.2.1, and1_bt, h0]; simp)]
      rw [r1]
      simp only
      rw [must_pair e3.1 e3.2.1, can_pair hck.2.1, can_pair e3.2.1, co_bh2 hck.2.2.1 h0, co_bh]
    · intro j hj
      rw [r2 j hj, hm j hj, sg_bh hj, Bool.or_assoc]
    · intro j hj
      rw [r3 j hj, hc j hj, sg_bh hj, Bool.or_assoc]
theorem row_s (hK : Kn β Γ K th mi) : ∀ (xs : List (Int32 × Nat)) (k : Int32) (c : Option Nat) (N N1 N2 : Nat) (am ac : Int64) (s : Int32) (v1 : Option Nat) (v2 : Int32) (v4 : Option Nat) (σ : ck_S) (Bm Bc : Nat → Bool), chn T E xs k c → xs.length < N → xs.length < N1 → xs.length < N2 → (∀ x ∈ xs, WS T S E β f g Γ x.1 x.2) → ckk am ac → s = (if bt (co am) 0 = true then 1 else 0) → σ.2.2.2.1 = E → σ.1 2 = S → σ.1 3 = th → σ.1 4 = mi → (∀ j, j < 26 → nz β (σ.1 5) j = (Bm j || sg am j)) → (∀ j, j < 26 → nz β (σ.1 6) j = (Bc j || sg ac j)) →
    ∃ rm rc m' c', mw_sq (fun q => f false q 0 0 K) T N k am = some rm ∧ mw_cs f T K N1 k ac s = some rc ∧ ckk rm rc ∧ sp_Tk_weighRow_47 g N2 v1 v2 1 v4 (q_Codes_pair (co am) (co ac)) c σ = some (q_Codes_pair (co rm) (co rc), (upd (upd σ.1 5 m') 6 c', σ.2)) ∧ (∀ j, j < 26 → nz β m' j = (Bm j || sg rm j)) ∧ (∀ j, j < 26 → nz β c' j = (Bc j || sg rc j)) := by
  intro xs
  induction xs with
  | nil =>
    intro k c N N1 N2 am ac s v1 v2 v4 σ Bm Bc hc hN hN1 hN2 hW hck hs hE hS h3 h4 hm hcc
    obtain ⟨N, rfl⟩ : ∃ M, N = M + 1 := ⟨N - 1, by simp at hN; omega⟩
    obtain ⟨N1, rfl⟩ : ∃ M, N1 = M + 1 := ⟨N1 - 1, by simp at hN1; omega⟩
    obtain ⟨N2, rfl⟩ : ∃ M, N2 = M + 1 := ⟨N2 - 1, by simp at hN2; omega⟩
    obtain ⟨rfl, rfl⟩ := hc
    refine ⟨am, ac, σ.1 5, σ.1 6, ?_, ?_, hck, ?_, hm, hcc⟩
    · unfold mw_sq; rw [if_pos rfl]
    · unfold mw_cs; rw [if_pos rfl]
    · rw [upd_self, upd_self]; rfl
  | cons x xs ih =>
    intro k c N N1 N2 am ac s v1 v2 v4 σ Bm Bc hc hN hN1 hN2 hW hck hs hE hS h3 h4 hm hcc
    obtain ⟨N, rfl⟩ : ∃ M, N = M + 1 := ⟨N - 1, by simp at hN; omega⟩
    obtain ⟨N1, rfl⟩ : ∃ M, N1 = M + 1 := ⟨N1 - 1, by simp at hN1; omega⟩
    obtain ⟨N2, rfl⟩ : ∃ M, N2 = M + 1 := ⟨N2 - 1, by simp at hN2; omega⟩
    have hc' := hc
    obtain ⟨q1, q2, q3, q4, c', q5, q6⟩ := hc
    cases hc0 : bt (co ac) 0 with
    | false =>
      have hm0 : bt (co am) 0 = false := by
        cases hb : bt (co am) 0
        · rfl
        · rw [hck.2.2.2 0 hb] at hc0; cases hc0
      refine ⟨am, ac, σ.1 5, σ.1 6, sq_stop hm0, cs_stop hc0, hck, ?_, hm, hcc⟩
      rw [upd_self, upd_self]
      exact row_idle _ _ _ _ _ _ _ _ _ _ hc' hN2 hE ((can0 hck.2.1).mpr hc0)
    | true =>
      subst q1 q2
      have hx : WS T S E β f g Γ x.1 x.2 := hW x (List.mem_cons_self ..)
      obtain ⟨w1, w2⟩ := bh_s hx hK hck hc0 hE hS h3 h4 hm hcc
      have hn1 := gi_n1 q3
      have hC : q_hasC ac 0 ≠ 0 := by rw [hasC_eq, hc0]; decide
      cases hm0 : bt (co am) 0 with
      | false =>
        obtain ⟨y, m, cc, y1, y2, y3, y4, y5⟩ := w1 hm0
        rw [hm0, if_neg (by decide)] at hs
        obtain ⟨rm, rc, m', c2, i1, i2, i3, i4, i5, i6⟩ := ih _ c' N N1 N2 am (q_behind ac y) 0 v1 v2 v4 (upd (upd σ.1 5 m) 6 cc, σ.2) Bm Bc q6 (by simp at hN; omega) (by simp at hN1; omega) (by simp at hN2; omega) (fun z hz => hW z (List.mem_cons_of_mem _ hz)) y2 (by rw [hm0, if_neg (by decide)]) hE hS h3 h4 y4 y5
        have hrm : rm = am := by
          obtain ⟨M, rfl⟩ : ∃ M, N = M + 1 := ⟨N - 1, by simp at hN; omega⟩
          rw [sq_stop hm0] at i1
          exact (Option.some.inj i1).symm
        refine ⟨rm, rc, m', c2, ?_, ?_, i3, ?_, i5, i6⟩
        · rw [hrm]; exact sq_stop hm0
        · unfold mw_cs
          rw [if_neg hn1, if_neg hC, hs, y1]
          simp only
          rw [if_pos trivial, if_pos q3]
          exact i2
        · unfold sp_Tk_weighRow_47
          simp only
          rw [y3]
          simp only [hE, q5]
          rw [i4, up56]
      | true =>
        obtain ⟨z, y, m, cc, y0, y1, y2, yz, y3, y4, y5⟩ := w2 hm0
        rw [hm0, if_pos rfl] at hs
        have hM : q_hasC am 0 ≠ 0 := by rw [hasC_eq, hm0]; decide
        obtain ⟨rm, rc, m', c2, i1, i2, i3, i4, i5, i6⟩ := ih _ c' N N1 N2 (q_behind am z) (q_behind ac y) (if bt (co (q_behind am z)) 0 = true then 1 else 0) v1 v2 v4 (upd (upd σ.1 5 m) 6 cc, σ.2) Bm Bc q6 (by simp at hN; omega) (by simp at hN1; omega) (by simp at hN2; omega) (fun z hz => hW z (List.mem_cons_of_mem _ hz)) y2 rfl hE hS h3 h4 y4 y5
        refine ⟨rm, rc, m', c2, ?_, ?_, i3, ?_, i5, i6⟩
        · unfold mw_sq
          rw [if_neg hn1, if_neg hM]
          simp only [y0]
          rw [if_pos q3]
          exact i1
        · unfold mw_cs
          rw [if_neg hn1, if_neg hC, hs, y1]
          simp only
          rw [if_neg (by decide), y0]
          simp only
          rw [if_pos q3, hasC_eq, ← yz]
          cases hb : bt (co (q_behind am z)) 0 with
          | false =>
            rw [hb, if_neg (by decide)] at i2
            simp only [Bool.false_eq_true, if_false, if_true]
            exact i2
          | true =>
            rw [hb, if_pos rfl] at i2
            simp only [if_true]
            rw [if_neg (by decide)]
            exact i2
        · unfold sp_Tk_weighRow_47
          simp only
          rw [y3]
          simp only [hE, q5]
          rw [i4, up56]
end W2
