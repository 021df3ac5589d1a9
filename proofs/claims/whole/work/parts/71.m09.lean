section W5
variable {T : mw_A} {S : Int32} {E : ck_E} {β : Nat → Int32} {f : mw_F} {g : tw_G} {Γ : Nat → Bool} {th mi : Int32} {K : Nat → Int32}
theorem tw_id {a : Option Nat} {b s r : Int32} {Dm Dc : Nat → Bool} (h : ∀ σ : ck_S, σ.2.2.2.1 = E → g a b s σ = some (r, σ)) (hm : ∀ j, Dm j = false) (hc : ∀ j, Dc j = false) : TW E β S th mi g a b s r Dm Dc := by
  intro σ hE hS h3 h4
  refine ⟨σ.1 5, σ.1 6, ?_, fun j _ => by rw [hm j, Bool.or_false], fun j _ => by rw [hc j, Bool.or_false]⟩
  rw [upd_self, upd_self]
  exact h σ hE
theorem zend1 {c : Int32} : q_Tk_ending c 1 = q_Codes_pair c c := if_neg (by decide)
theorem end0 {c : Int32} : q_Tk_ending c 0 = q_Codes_pair 0 c := if_pos rfl
theorem ws_leaf {p : Int32} {a : Nat} {c : Int32 → Int64} (hm : ∀ res K, mwF T S f false p res 0 K = some (c res)) (hc : ∀ res sure K, mwF T S f true p res sure K = some (c res)) (hck : ∀ res, ckk (c res) (c res)) (hs : ∀ res j, sg (c res) j = false) (h1 : ∀ σ : ck_S, ∀ s, σ.2.2.2.1 = E → sp_Tk_weigh g (some a) 1 s σ = some (q_Tk_ending (co (c 0)) s, σ)) (h0 : ∀ σ : ck_S, ∀ s, σ.2.2.2.1 = E → sp_Tk_weigh g (some a) 0 s σ = some (q_Tk_ending (co (c 1)) s, σ)) : WS T S E β (mwF T S f) (sp_Tk_weigh g) Γ p a := by
  intro K th mi hK res b hrb
  have hh : ∀ σ : ck_S, ∀ s, σ.2.2.2.1 = E → sp_Tk_weigh g (some a) b s σ = some (q_Tk_ending (co (c res)) s, σ) := by
    intro σ s hE
    rcases hrb with ⟨hr, hb⟩ | ⟨hr, hb, _⟩
    · rw [hr, hb]; exact h1 σ s hE
    · rw [hr, hb]; exact h0 σ s hE
  refine ⟨⟨c res, c res, hm _ _, hc _ _ _, hck _, ?_⟩, ⟨c res, hc _ _ _, (hck _).1, ?_⟩⟩
  · refine tw_id (fun σ hE => ?_) (hs _) (hs _)
    rw [hh σ 1 hE, zend1]
  · refine tw_id (fun σ hE => ?_) (fun _ => rfl) (hs _)
    rw [hh σ 0 hE, end0]
theorem ws_0 {p : Int32} {a : Nat} (hp : gi p 2600 = true) (hk : T 20 p.toNatClampNeg = 0) (e0 : egI E a 2 0 = some 0) (hf : ∃ f', ∀ res K, f false p res 0 K = mw_must T S f' p res K) : WS T S E β (mwF T S f) (sp_Tk_weigh g) Γ p a := by
  obtain ⟨f', hf⟩ := hf
  refine ws_leaf (c := fun _ => 1) (fun res K => ?_) (fun res sure K => ?_) (fun _ => ckk_1) (fun _ _ => sg_1) (fun σ s hE => ?_) (fun σ s hE => ?_)
  · rw [mwF_m hp]; unfold mw_must; rw [if_pos hk]
  · rw [mwF_c hp]; unfold mw_can; rw [if_pos hk, hf]; unfold mw_must; rw [if_pos hk]
  · unfold sp_Tk_weigh
    simp only [hE, e0]
    simp
    rfl
  · unfold sp_Tk_weigh
    simp only [hE, e0]
    simp
    rfl
theorem ws_1 {p : Int32} {a : Nat} (hp : gi p 2600 = true) (hk : T 20 p.toNatClampNeg = 1) (e0 : egI E a 2 0 = some 1) (hf : ∃ f', ∀ res K, f false p res 0 K = mw_must T S f' p res K) : WS T S E β (mwF T S f) (sp_Tk_weigh g) Γ p a := by
  obtain ⟨f', hf⟩ := hf
  have hmm : ∀ f res K, mw_must T S f p res K = some (if res = 0 then 2 else 1) := by
    intro f res K
    unfold mw_must
    rw [if_neg (by rw [hk]; decide), if_pos hk]
    by_cases h : res = 0
    · rw [if_pos h, if_pos h]
    · rw [if_neg h, if_neg h]
  refine ws_leaf (c := fun res => if res = 0 then 2 else 1) (fun res K => ?_) (fun res sure K => ?_) (fun res => ?_) (fun res j => ?_) (fun σ s hE => ?_) (fun σ s hE => ?_)
  · rw [mwF_m hp, hmm]
  · rw [mwF_c hp]; unfold mw_can; rw [if_neg (by rw [hk]; decide), if_pos hk, hf, hmm]
  · by_cases h : res = 0
    · rw [if_pos h]; exact ⟨b16_2, b16_2, am1_2, sub_rf⟩
    · rw [if_neg h]; exact ckk_1
  · by_cases h : res = 0
    · rw [if_pos h]; exact sg_2
    · rw [if_neg h]; exact sg_1
  · unfold sp_Tk_weigh
    simp only [hE, e0]
    simp
    rfl
  · unfold sp_Tk_weigh
    simp only [hE, e0]
    simp
    rfl
theorem ws_7 {p : Int32} {a c : Nat} (hp : gi p 2600 = true) (hk : T 20 p.toNatClampNeg = 7) (e0 : egI E a 2 0 = some 7) (hc : c < 16) (hn : T 22 p.toNatClampNeg = Int32.ofNat c) (e1 : egI E a 2 1 = some (Int32.ofNat c)) (hf : ∃ f', ∀ res K, f false p res 0 K = mw_must T S f' p res K) : WS T S E β (mwF T S f) (sp_Tk_weigh g) Γ p a := by
  obtain ⟨f', hf⟩ := hf
  have hmm : ∀ f res K, mw_must T S f p res K = some (1 <<< ((Int32.ofNat c).toInt64 &&& 63)) := by
    intro f res K
    unfold mw_must
    simp only [hk, hn]
    simp
  refine ws_leaf (c := fun res => 1 <<< ((Int32.ofNat c).toInt64 &&& 63)) (fun res K => ?_) (fun res sure K => ?_) (fun res => ?_) (fun res j => sg_ex hc) (fun σ s hE => ?_) (fun σ s hE => ?_)
  · rw [mwF_m hp, hmm]
  · rw [mwF_c hp]; unfold mw_can; simp only [hk]; simp; rw [hf, hmm]
  · refine ⟨?_, ?_, ?_, sub_rf⟩ <;> rw [co_ex hc]
    · exact b16_p2 hc
    · exact b16_p2 hc
    · exact am1_p2 (by omega)
  · unfold sp_Tk_weigh
    simp only [hE, e0, e1]
    simp
    rw [co_ex hc]
  · unfold sp_Tk_weigh
    simp only [hE, e0, e1]
    simp
    rw [co_ex hc]
end W5
