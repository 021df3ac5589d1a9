section W4
variable {T : mw_A} {S : Int32} {E : ck_E} {β : Nat → Int32} {f : mw_F} {g : tw_G} {Γ : Nat → Bool} {th mi : Int32} {K : Nat → Int32}
theorem bes_u (hK : Kn β Γ K th mi) {res b : Int32} (hrb : res = 0 ∧ b = 1 ∨ res = 1 ∧ b = 0) : ∀ (xs : List (Int32 × Nat)) (k : Int32) (c : Option Nat) (N1 N2 : Nat) (ac : Int64) (v4 : Int32) (v1 : Option Nat) (σ : ck_S) (Bm Bc : Nat → Bool), chn T E xs k c → xs.length < N1 → xs.length < N2 → (∀ x ∈ xs, WS T S E β f g Γ x.1 x.2) → b16 (co ac) → (v4 = 0 ∨ ∃ x ∈ xs, res = 0 ∨ T 25 x.1.toNatClampNeg &&& S ≠ 0) → σ.2.2.2.1 = E → σ.1 2 = S → σ.1 3 = th → σ.1 4 = mi → (∀ j, j < 26 → nz β (σ.1 5) j = Bm j) → (∀ j, j < 26 → nz β (σ.1 6) j = (Bc j || sg ac j)) →
    ∃ rc m' c', mw_pl (fun q => f true q res 0 K) T S res N1 k ac = some rc ∧ b16 (co rc) ∧ sp_Tk_weighBeside_12 g N2 v1 b 0 v4 (co ac) c σ = some (q_Codes_pair 0 (co rc), (upd (upd σ.1 5 m') 6 c', σ.2)) ∧ (∀ j, j < 26 → nz β m' j = Bm j) ∧ (∀ j, j < 26 → nz β c' j = (Bc j || sg rc j)) := by
  intro xs
  induction xs with
  | nil =>
    intro k c N1 N2 ac v4 v1 σ Bm Bc hc hN1 hN2 hW hck hv hE hS h3 h4 hm hcc
    obtain ⟨N1, rfl⟩ : ∃ M, N1 = M + 1 := ⟨N1 - 1, by simp at hN1; omega⟩
    obtain ⟨N2, rfl⟩ : ∃ M, N2 = M + 1 := ⟨N2 - 1, by simp at hN2; omega⟩
    obtain ⟨rfl, rfl⟩ := hc
    have hv0 : v4 = 0 := by
      rcases hv with h | ⟨x, hx, _⟩
      · exact h
      · cases hx
    refine ⟨ac, σ.1 5, σ.1 6, ?_, hck, ?_, hm, hcc⟩
    · unfold mw_pl; rw [if_pos rfl]
    · rw [upd_self, upd_self, hv0]; rfl
  | cons x xs ih =>
    intro k c N1 N2 ac v4 v1 σ Bm Bc hc hN1 hN2 hW hck hv hE hS h3 h4 hm hcc
    obtain ⟨N1, rfl⟩ : ∃ M, N1 = M + 1 := ⟨N1 - 1, by simp at hN1; omega⟩
    obtain ⟨N2, rfl⟩ : ∃ M, N2 = M + 1 := ⟨N2 - 1, by simp at hN2; omega⟩
    obtain ⟨q1, q2, q3, q4, c', q5, q6⟩ := hc
    subst q1 q2
    have hn1 := gi_n1 q3
    have hx : WS T S E β f g Γ x.1 x.2 := hW x (List.mem_cons_self ..)
    have go : (res = 0 ∧ b = 1 ∨ res = 1 ∧ b = 0 ∧ T 25 x.1.toNatClampNeg &&& S ≠ 0) → ∃ rc m' c', mw_pl (fun q => f true q res 0 K) T S res (N1 + 1) x.1 ac = some rc ∧ b16 (co rc) ∧ sp_Tk_weighBeside_12 g (N2 + 1) v1 b 0 v4 (co ac) (some x.2) σ = some (q_Codes_pair 0 (co rc), (upd (upd σ.1 5 m') 6 c', σ.2)) ∧ (∀ j, j < 26 → nz β m' j = Bm j) ∧ (∀ j, j < 26 → nz β c' j = (Bc j || sg rc j)) := by
      intro hw
      obtain ⟨_, ⟨xc, e2, e3, e4⟩⟩ := hx K th mi hK res b hw
      obtain ⟨m, cc, r1, r2, r3⟩ := e4 σ hE hS h3 h4
      have hgm : q_Codes_greater v4 (q_Codes_mustOf (q_Codes_pair 0 (co xc))) = 0 := by rw [must_pair b16_0 e3, gr_10]
      have hgc : q_Codes_greater (co ac) (q_Codes_canOf (q_Codes_pair 0 (co xc))) = co (q_beside ac xc) := by rw [can_pair e3, co_bs, gr_eq hck e3]
      obtain ⟨rc, m', c2, i2, i3, i4, i5, i6⟩ := ih _ c' N1 N2 (q_beside ac xc) 0 v1 (upd (upd σ.1 5 m) 6 cc, σ.2) Bm Bc q6 (by simp at hN1; omega) (by simp at hN2; omega) (fun z hz => hW z (List.mem_cons_of_mem _ hz)) (by rw [co_bs, gr_eq hck e3]; exact b16_gr hck e3) (Or.inl rfl) hE hS h3 h4 (fun j hj => by
        show nz β m j = _
        rw [r2 j hj, hm j hj, Bool.or_false]) (fun j hj => by
        show nz β cc j = _
        rw [r3 j hj, hcc j hj, sg_bs hj, Bool.or_assoc])
      refine ⟨rc, m', c2, ?_, i3, ?_, i5, i6⟩
      · unfold mw_pl
        rw [if_neg hn1]
        rcases hw with ⟨hr, _⟩ | ⟨hr, _, hst⟩
        · simp only [if_pos hr, e2, if_pos q3]
          exact i2
        · rw [if_neg (by rw [hr]; decide), if_pos q3, if_neg hst]
          simp only [e2, if_pos q3]
          exact i2
      · unfold sp_Tk_weighBeside_12
        simp only
        rcases hw with ⟨_, hb⟩ | ⟨_, hb, hst⟩
        · rw [if_neg (by rw [hb]; decide), r1]
          simp only [hE, q5]
          rw [hgm, hgc, i4, up56]
        · rw [if_pos hb, hE, if_pos (eo_ofI q4), hS, stands_eq hE q4, if_neg hst]
          simp only
          rw [if_neg (by decide), r1]
          simp only [hE, q5]
          rw [hgm, hgc, i4, up56]
    rcases hrb with ⟨hr, hb⟩ | ⟨hr, hb⟩
    · exact go (Or.inl ⟨hr, hb⟩)
    · by_cases hst : T 25 x.1.toNatClampNeg &&& S = 0
      · have c2 : co (q_beside ac 1) = co ac := by rw [co_bs, cz_1, gr_1 hck]
        have hv' : v4 = 0 ∨ ∃ x ∈ xs, res = 0 ∨ T 25 x.1.toNatClampNeg &&& S ≠ 0 := by
          rcases hv with h | ⟨y, hy, hq⟩
          · exact Or.inl h
          · rcases List.mem_cons.mp hy with e | e
            · subst e
              rcases hq with h | h
              · rw [hr] at h; exact absurd h (by decide)
              · exact absurd hst h
            · exact Or.inr ⟨y, e, hq⟩
        obtain ⟨rc, m', c2', i2, i3, i4, i5, i6⟩ := ih _ c' N1 N2 (q_beside ac 1) v4 v1 σ Bm Bc q6 (by simp at hN1; omega) (by simp at hN2; omega) (fun z hz => hW z (List.mem_cons_of_mem _ hz)) (by rw [c2]; exact hck) hv' hE hS h3 h4 hm (fun j hj => by
          rw [hcc j hj, sg_bs hj, sg_1, Bool.or_false])
        rw [c2] at i4
        refine ⟨rc, m', c2', ?_, i3, ?_, i5, i6⟩
        · unfold mw_pl
          rw [if_neg hn1, if_neg (by rw [hr]; decide), if_pos q3, if_pos hst]
          simp only [if_pos q3]
          exact i2
        · unfold sp_Tk_weighBeside_12
          simp only
          rw [if_pos hb, hE, if_pos (eo_ofI q4), hS, stands_eq hE q4, if_pos hst]
          simp only [if_true, hE, q5]
          exact i4
      · exact go (Or.inr ⟨hr, hb, hst⟩)
def mwF (T : mw_A) (S : Int32) (f : mw_F) : mw_F := fun c p res sure K => if gi p 2600 = true then (if c = true then mw_can T S f p res sure K else mw_must T S f p res K) else none
theorem mw_su {n : Nat} : mw T S (n + 1) = mwF T S (mw T S n) := rfl
theorem tw_su {n : Nat} : tw (n + 1) = sp_Tk_weigh (tw n) := rfl
theorem mwF_c {p res sure : Int32} (hp : gi p 2600 = true) : mwF T S f true p res sure K = mw_can T S f p res sure K := by
  unfold mwF
  rw [if_pos hp, if_pos rfl]
theorem mwF_m {p res sure : Int32} (hp : gi p 2600 = true) : mwF T S f false p res sure K = mw_must T S f p res K := by
  unfold mwF
  rw [if_pos hp, if_neg (by decide)]
end W4
