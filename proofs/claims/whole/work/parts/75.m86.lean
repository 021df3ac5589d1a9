section H9
variable {lim sz at_ dp lc tr pr pc sc pt ni no : Nat} {li lo : Nat → Nat} {σ : gm_S} {c : ck_S}
theorem r118 : ∀ (k m : Nat) (σ : gm_S), k ≤ 26 → k < m → ∃ m2 f, sp_Md_readProgram_118 m (Int32.ofNat (26 - k)) σ = sp_Md_readProgram_118 (m2 + 1) 26 (σ.1, gm_up σ.2 31 f) ∧ (∀ i, 26 - k ≤ i → i < 26 → f i = 0) ∧ (∀ i, i < 26 - k → f i = σ.2 31 i) := by
  intro k
  induction k with
  | zero =>
    intro m σ _ hm
    obtain ⟨m, rfl⟩ : ∃ j, m = j + 1 := ⟨m - 1, by omega⟩
    refine ⟨m, σ.2 31, ?_, fun i h1 h2 => by omega, fun i _ => rfl⟩
    rw [gm_upI]
    rfl
  | succ k ih =>
    intro m σ hk hm
    obtain ⟨m, rfl⟩ : ∃ j, m = j + 1 := ⟨m - 1, by omega⟩
    obtain ⟨m2, f, f1, f2, f3⟩ := ih m (σ.1, gm_up σ.2 31 (upd (σ.2 31) (26 - (k + 1)) 0)) (by omega) (by omega)
    refine ⟨m2, f, ?_, fun i h1 h2 => ?_, fun i hi => ?_⟩
    · rw [sp_Md_readProgram_118, if_neg (show ¬ ((26 : Int32) ≤ Int32.ofNat (26 - (k + 1))) from fun e => by have := (le_N (a := 26) (by decide) (by omega)).mp e; omega), if_pos (gi_of (by omega) (by decide)), cl_of (by omega), ofN_s, show 26 - (k + 1) + 1 = 26 - k by omega, f1]
      show sp_Md_readProgram_118 (m2 + 1) 26 (σ.1, gm_up (gm_up σ.2 31 _) 31 f) = _
      rw [gm_up2]
    · by_cases h3 : 26 - k ≤ i
      · exact f2 i h3 h2
      · rw [f3 i (by omega)]
        show upd (σ.2 31) (26 - (k + 1)) 0 i = 0
        rw [show i = 26 - (k + 1) by omega, upd_eq]
    · rw [f3 i (by omega)]
      show upd (σ.2 31) (26 - (k + 1)) 0 i = _
      rw [upd_ne (by omega)]
theorem r118e {m : Nat} : sp_Md_readProgram_118 (m + 1) 26 σ = rIn 26 σ := by
  rw [sp_Md_readProgram_118, if_pos (by decide)]
  rfl
theorem mN_id {w : Nat} (hw : w ≤ 500) (h : σ.2 30 2 = -1 ∨ ∃ z, z ≤ 500 ∧ σ.2 30 2 = Int32.ofNat z) : mN 2 w (mN 2 w σ) = mN 2 w σ := by
  obtain ⟨m1, m2⟩ := mN_k (σ := σ) (k := 2) hw
  have key : ∃ z, z ≤ w ∧ (mN 2 w σ).2 30 2 = Int32.ofNat z := by
    rcases h with e | ⟨z, z1, z2⟩
    · exact ⟨w, Nat.le_refl _, m1 e⟩
    · exact ⟨min z w, by omega, m2 z z1 z2⟩
  obtain ⟨z, z1, z2⟩ := key
  rw [mN, if_neg (by rw [z2]; exact ofN_n1 (by omega)), z2, if_pos ((le_N (by omega) (by omega)).mpr z1)]
theorem names_r {x : Int32} : ∀ (d v1 m : Nat) (σ : gm_S), AL sz at_ σ c → sv sz at_ σ = x → σ.1 10 = Int32.ofNat pr → pr ≤ 6 → (σ.2 30 2 = -1 ∨ ∃ z, z ≤ 500 ∧ σ.2 30 2 = Int32.ofNat z) → v1 + d = pr → d < m → ∃ m2, ((∃ i, v1 ≤ i ∧ i < pr ∧ σ.2 11 i = x) → sp_Md_readProgram_27 m (Int32.ofNat v1) σ = sp_Md_readProgram_27 (m2 + 1) (Int32.ofNat pr) (mN 2 at_ σ)) ∧ (¬ (∃ i, v1 ≤ i ∧ i < pr ∧ σ.2 11 i = x) → sp_Md_readProgram_27 m (Int32.ofNat v1) σ = sp_Md_readProgram_27 (m2 + 1) (Int32.ofNat pr) σ) := by
  intro d
  induction d with
  | zero =>
    intro v1 m σ hA hx h10 hp h30 hd hm
    obtain ⟨m, rfl⟩ : ∃ j, m = j + 1 := ⟨m - 1, by omega⟩
    have : v1 = pr := by omega
    subst this
    exact ⟨m, fun ⟨i, h1, h2, _⟩ => by omega, fun _ => rfl⟩
  | succ d ih =>
    intro v1 m σ hA hx h10 hp h30 hd hm
    obtain ⟨m, rfl⟩ : ∃ j, m = j + 1 := ⟨m - 1, by omega⟩
    have hs : sz ≤ 500 := hA.1.2.1
    have ha : at_ ≤ sz := hA.1.2.2.2.1
    have step : sp_Md_readProgram_27 (m + 1) (Int32.ofNat v1) σ = (if σ.2 11 v1 = x then sp_Md_readProgram_27 m (Int32.ofNat (v1 + 1)) (mN 2 at_ σ) else sp_Md_readProgram_27 m (Int32.ofNat (v1 + 1)) σ) := by
      have m2 : sp_Md_note 2 (σ.1 27) σ = some (mN 2 at_ σ) := by rw [hA.2.2.2.1]; exact mn_eq (k := 2) (by decide)
      rw [sp_Md_readProgram_27, h10, if_neg (fun e => by have := (le_N (by omega) (by omega)).mp e; omega), if_pos (gi_of (by omega) (by decide)), cl_of (by omega), see_a hA, hx]
      simp only
      rw [ofN_s, m2]
    rw [step]
    by_cases he : σ.2 11 v1 = x
    · rw [if_pos he]
      obtain ⟨o1, o2, o3⟩ := mN_o (σ := σ) (k := 2) (w := at_)
      have hA' : AL sz at_ (mN 2 at_ σ) c := by
        obtain ⟨a1, a2, a3, a4, a5⟩ := hA
        exact ⟨a1, a2, by rw [o1]; exact a3, by rw [o1]; exact a4, by rw [o2 4 (by decide)]; exact a5⟩
      have hx' : sv sz at_ (mN 2 at_ σ) = x := by
        rw [← hx]
        unfold sv
        rw [o2 4 (by decide)]
      have h30' : (mN 2 at_ σ).2 30 2 = -1 ∨ ∃ z, z ≤ 500 ∧ (mN 2 at_ σ).2 30 2 = Int32.ofNat z := by
        obtain ⟨q1, q2⟩ := mN_k (σ := σ) (k := 2) (w := at_) (by omega)
        rcases h30 with e | ⟨z, z1, z2⟩
        · exact Or.inr ⟨at_, by omega, q1 e⟩
        · exact Or.inr ⟨min z at_, by omega, q2 z z1 z2⟩
      obtain ⟨m2, i1, i2⟩ := ih (v1 + 1) m (mN 2 at_ σ) hA' hx' (by rw [o1]; exact h10) hp h30' (by omega) (by omega)
      refine ⟨m2, fun _ => ?_, fun hn => absurd ⟨v1, Nat.le_refl _, by omega, he⟩ hn⟩
      by_cases hex : ∃ i, v1 + 1 ≤ i ∧ i < pr ∧ (mN 2 at_ σ).2 11 i = x
      · rw [i1 hex, mN_id (by omega) h30]
      · exact i2 hex
    · rw [if_neg he]
      obtain ⟨m2, i1, i2⟩ := ih (v1 + 1) m σ hA hx h10 hp h30 (by omega) (by omega)
      refine ⟨m2, fun ⟨i, e1, e2, e3⟩ => i1 ⟨i, ?_, e2, e3⟩, fun hn => i2 fun ⟨i, e1, e2, e3⟩ => hn ⟨i, by omega, e2, e3⟩⟩
      have : i ≠ v1 := fun e => he (by rw [← e]; exact e3)
      omega
end H9
