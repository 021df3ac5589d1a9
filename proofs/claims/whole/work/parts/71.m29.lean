def pth (f : Nat → Nat) : List Nat → Nat → Prop
  | [], y => y = 0
  | z :: zs, y => y = z ∧ 0 < z ∧ pth f zs (f z)
theorem pth_ex (f : Nat → Nat) : ∀ y, (∀ z, 0 < z → z ≤ y → f z < z) → ∃ l, pth f l y ∧ l.length ≤ y ∧ ∀ z ∈ l, z ≤ y := by
  intro y
  induction y using Nat.strongRecOn with
  | _ y ih =>
    intro hf
    by_cases h0 : y = 0
    · exact ⟨[], h0, by simp, fun z hz => by cases hz⟩
    · have h1 := hf y (by omega) (Nat.le_refl _)
      obtain ⟨l, a1, a2, a3⟩ := ih (f y) h1 (fun z q1 q2 => hf z q1 (by omega))
      refine ⟨y :: l, ⟨rfl, by omega, a1⟩, by simp; omega, fun z hz => ?_⟩
      rcases List.mem_cons.mp hz with e | e
      · omega
      · have := a3 z e
        omega
def fl (b : Nat → Int32) : List Nat → Nat → (Nat → Int32) → (Nat → Int32)
  | [], _, W => W
  | z :: zs, k, W => fl b zs (k - 1) (upd W (k - 1) (b z))
theorem fl_hi (b : Nat → Int32) : ∀ (l : List Nat) (k : Nat) (W : Nat → Int32) (i : Nat), l.length ≤ k → k ≤ i → fl b l k W i = W i := by
  intro l
  induction l with
  | nil => intro k W i _ _; rfl
  | cons z zs ih =>
    intro k W i hk hi
    simp at hk
    show fl b zs (k - 1) (upd W (k - 1) (b z)) i = W i
    rw [ih (k - 1) _ i (by omega) (by omega), upd_ne (by omega)]
theorem fl_eq (b b' : Nat → Int32) : ∀ (l : List Nat) (k : Nat) (W W' : Nat → Int32), l.length = k → (∀ z ∈ l, b z = b' z) → ∀ i, i < k → fl b l k W i = fl b' l k W' i := by
  intro l
  induction l with
  | nil => intro k W W' hk _ i hi; simp at hk; omega
  | cons z zs ih =>
    intro k W W' hk hb i hi
    simp at hk
    show fl b zs (k - 1) (upd W (k - 1) (b z)) i = fl b' zs (k - 1) (upd W' (k - 1) (b' z)) i
    by_cases h : i < k - 1
    · exact ih (k - 1) _ _ (by omega) (fun w hw => hb w (List.mem_cons_of_mem _ hw)) i h
    · have hi' : i = k - 1 := by omega
      rw [fl_hi b zs (k - 1) _ i (by omega) (by omega), fl_hi b' zs (k - 1) _ i (by omega) (by omega), hi', upd_eq, upd_eq, hb z (by simp)]
section S2
variable {f : Nat → Nat} {N : Nat}
theorem sb1 {a : Nat} (h : 1 ≤ a) : Int32.ofNat a + (-1) = Int32.ofNat (a - 1) := by
  obtain ⟨b, rfl⟩ : ∃ b, a = b + 1 := ⟨a - 1, by omega⟩
  rw [← ofN_s, Nat.add_sub_cancel, Int32.add_assoc, show (1 : Int32) + (-1) = 0 from rfl, Int32.add_zero]
theorem sb2 {a : Nat} (h : 1 ≤ a) : Int32.ofNat a - 1 = Int32.ofNat (a - 1) := by
  rw [Int32.sub_eq_add_neg]
  exact sb1 h
theorem fw_54 {v1 v2 : Int32} : ∀ (l : List Nat) (y k m : Nat) (σ : gm_S), pth f l y → l.length = k → (∀ z ∈ l, z < N) → y < N → N ≤ 300 → k ≤ 300 → l.length < m → σ.2 53 0 = -1 → (∀ z, 0 < z → z < N → σ.2 53 z = Int32.ofNat (f z) ∧ f z < z) → sp_Md_findWay_54 m v1 v2 (Int32.ofNat k) (Int32.ofNat y) σ = some (σ.1, gm_up σ.2 56 (fl (σ.2 54) l k (σ.2 56))) := by
  intro l
  induction l with
  | nil =>
    intro y k m σ hp hk hl hy hN hk3 hm h0 hf
    obtain ⟨m, rfl⟩ : ∃ j, m = j + 1 := ⟨m - 1, by simp at hm; omega⟩
    have hy0 : y = 0 := hp
    subst hy0
    unfold sp_Md_findWay_54
    rw [if_pos (gi_of (by omega : 0 < 300) (by decide)), cl_of (by omega), h0, if_pos rfl]
    show some σ = some (σ.1, gm_up σ.2 56 (σ.2 56))
    have : gm_up σ.2 56 (σ.2 56) = σ.2 := by
      funext j
      unfold gm_up
      by_cases h : j = 56 <;> simp [h]
    rw [this]
  | cons z zs ih =>
    intro y k m σ hp hk hl hy hN hk3 hm h0 hf
    obtain ⟨m, rfl⟩ : ∃ j, m = j + 1 := ⟨m - 1, by simp at hm; omega⟩
    obtain ⟨p1, p2, p3⟩ := hp
    subst p1
    simp at hk hm
    obtain ⟨f1, f2⟩ := hf y p2 hy
    unfold sp_Md_findWay_54
    rw [if_pos (gi_of (by omega : y < 300) (by decide)), cl_of (by omega), f1, if_neg (fun e => by
      have h1 : (Int32.ofNat (f y)).toInt = f y := Int32.toInt_ofNat_of_lt (by omega)
      rw [e, show (-1 : Int32).toInt = -1 from rfl] at h1
      omega), sb1 (by omega), if_pos (gi_of (by omega : k - 1 < 301) (by decide)), cl_of (by omega)]
    have := ih (f y) (k - 1) m (σ.1, gm_up σ.2 56 (upd (σ.2 56) (k - 1) (σ.2 54 y))) p3 (by omega) (fun w hw => hl w (List.mem_cons_of_mem _ hw)) (by omega) hN (by omega) (by omega) h0 hf
    rw [this]
    have hup : gm_up (gm_up σ.2 56 (upd (σ.2 56) (k - 1) (σ.2 54 y))) 56 (fl (σ.2 54) zs (k - 1) (upd (σ.2 56) (k - 1) (σ.2 54 y))) = gm_up σ.2 56 (fl (σ.2 54) (y :: zs) k (σ.2 56)) := by
      funext j
      unfold gm_up
      by_cases h : j = 56
      · simp [h, fl]
      · simp [h]
    exact congrArg (fun w => some (σ.1, w)) hup
theorem fw_7 {v1 v2 : Int32} : ∀ (l : List Nat) (y c m : Nat) (σ : gm_S), pth f l y → (∀ z ∈ l, z < N) → y < N → N ≤ 300 → c + l.length ≤ 301 → 1 ≤ c → l.length < m → σ.1 55 = Int32.ofNat c → σ.2 53 0 = -1 → (∀ z, 0 < z → z < N → σ.2 53 z = Int32.ofNat (f z) ∧ f z < z) → sp_Md_findWay_7 m v1 v2 (Int32.ofNat y) σ = sp_Md_findWay_54 2601 v1 v2 (Int32.ofNat (c + l.length - 1)) v1 (upd σ.1 55 (Int32.ofNat (c + l.length)), gm_up σ.2 56 (upd (σ.2 56) (c + l.length - 1) v2)) := by
  intro l
  induction l with
  | nil =>
    intro y c m σ hp hl hy hN hc h1 hm h55 h0 hf
    obtain ⟨m, rfl⟩ : ∃ j, m = j + 1 := ⟨m - 1, by simp at hm; omega⟩
    have hy0 : y = 0 := hp
    subst hy0
    simp at hc
    unfold sp_Md_findWay_7
    rw [if_pos (gi_of (by omega : 0 < 300) (by decide)), cl_of (by omega), h0, if_pos rfl, h55, sb2 h1, if_pos (gi_of (by omega : c - 1 < 301) (by decide)), cl_of (by omega)]
    rw [show c + ([] : List Nat).length = c from rfl, ← h55, upd_self]
  | cons z zs ih =>
    intro y c m σ hp hl hy hN hc h1 hm h55 h0 hf
    obtain ⟨m, rfl⟩ : ∃ j, m = j + 1 := ⟨m - 1, by simp at hm; omega⟩
    obtain ⟨p1, p2, p3⟩ := hp
    subst p1
    simp at hc hm
    obtain ⟨f1, f2⟩ := hf y p2 hy
    conv => lhs; unfold sp_Md_findWay_7
    rw [if_pos (gi_of (by omega : y < 300) (by decide)), cl_of (by omega), f1, if_neg (fun e => by
      have h1 : (Int32.ofNat (f y)).toInt = f y := Int32.toInt_ofNat_of_lt (by omega)
      rw [e, show (-1 : Int32).toInt = -1 from rfl] at h1
      omega), h55, ofN_s]
    have := ih (f y) (c + 1) m (upd σ.1 55 (Int32.ofNat (c + 1)), σ.2) p3 (fun w hw => hl w (List.mem_cons_of_mem _ hw)) (by omega) hN (by omega) (by omega) (by omega) rfl h0 hf
    rw [this]
    have e1 : c + 1 + zs.length = c + (y :: zs).length := by simp; omega
    rw [e1]
    simp only
    rw [upd_upd]
theorem tt_4 {v1 : Int32} : ∀ (l : List Nat) (y c m : Nat) (σ : ck_S), pth f l y → (∀ z ∈ l, z < N) → y < N → N ≤ 300 → c + l.length < 300 → l.length < m → (∀ z, 0 < z → z < N → σ.2.1 3 z = Int32.ofNat (f z) ∧ f z < z) → sp_Sk_ticksTo_4 m v1 (Int32.ofNat c) (Int32.ofNat y) σ = some (Int32.ofNat (c + l.length), σ) := by
  intro l
  induction l with
  | nil =>
    intro y c m σ hp hl hy hN hc hm hf
    obtain ⟨m, rfl⟩ : ∃ j, m = j + 1 := ⟨m - 1, by simp at hm; omega⟩
    have hy0 : y = 0 := hp
    subst hy0
    unfold sp_Sk_ticksTo_4
    rw [if_pos (by decide)]
    rfl
  | cons z zs ih =>
    intro y c m σ hp hl hy hN hc hm hf
    obtain ⟨m, rfl⟩ : ∃ j, m = j + 1 := ⟨m - 1, by simp at hm; omega⟩
    obtain ⟨p1, p2, p3⟩ := hp
    subst p1
    simp at hc hm
    obtain ⟨f1, f2⟩ := hf y p2 hy
    unfold sp_Sk_ticksTo_4
    rw [if_neg (fun e => by have := (le_N (by omega) (by decide)).mp (show Int32.ofNat y ≤ Int32.ofNat 0 from e); omega), if_neg (fun e => by have := (le_N (by decide) (by omega)).mp (show Int32.ofNat 300 ≤ Int32.ofNat c from e); omega), if_pos (gi_of (by omega : y < 300) (by decide)), cl_of (by omega), f1, ofN_s]
    have := ih (f y) (c + 1) m σ p3 (fun w hw => hl w (List.mem_cons_of_mem _ hw)) (by omega) hN (by omega) (by omega) hf
    rw [this]
    have e1 : c + 1 + zs.length = c + (y :: zs).length := by simp; omega
    rw [e1]
theorem kr_33 {v1 v2 : Int32} : ∀ (l : List Nat) (y k m : Nat) (σ : ck_S), pth f l y → l.length = k → (∀ z ∈ l, z < N) → y < N → N ≤ 300 → k ≤ 300 → l.length < m → (∀ z, 0 < z → z < N → σ.2.1 3 z = Int32.ofNat (f z) ∧ f z < z) → sp_Sk_keepRun_33 m v1 v2 (Int32.ofNat y) (Int32.ofNat k + (-1)) σ = some (σ.1, gm_up σ.2.1 5 (fl (σ.2.1 4) l k (σ.2.1 5)), σ.2.2) := by
  intro l
  induction l with
  | nil =>
    intro y k m σ hp hk hl hy hN hk3 hm hf
    obtain ⟨m, rfl⟩ : ∃ j, m = j + 1 := ⟨m - 1, by simp at hm; omega⟩
    simp at hk
    subst hk
    unfold sp_Sk_keepRun_33
    rw [if_pos (by decide)]
    show some σ = some (σ.1, gm_up σ.2.1 5 (σ.2.1 5), σ.2.2)
    have : gm_up σ.2.1 5 (σ.2.1 5) = σ.2.1 := by
      funext j
      unfold gm_up
      by_cases h : j = 5 <;> simp [h]
    rw [this]
  | cons z zs ih =>
    intro y k m σ hp hk hl hy hN hk3 hm hf
    obtain ⟨m, rfl⟩ : ∃ j, m = j + 1 := ⟨m - 1, by simp at hm; omega⟩
    obtain ⟨p1, p2, p3⟩ := hp
    subst p1
    simp at hk hm
    obtain ⟨f1, f2⟩ := hf y p2 hy
    rw [sb1 (by omega)]
    unfold sp_Sk_keepRun_33
    rw [if_neg (fun e => by have := (lt_N (by omega) (by decide)).mp (show Int32.ofNat (k - 1) < Int32.ofNat 0 from e); omega), if_pos (gi_of (by omega : y < 300) (by decide)), if_pos (gi_of (by omega : k - 1 < 301) (by decide)), cl_of (by omega), cl_of (by omega), f1]
    have := ih (f y) (k - 1) m (σ.1, gm_up σ.2.1 5 (upd (σ.2.1 5) (k - 1) (σ.2.1 4 y)), σ.2.2) p3 (by omega) (fun w hw => hl w (List.mem_cons_of_mem _ hw)) (by omega) hN (by omega) (by omega) hf
    have hup : gm_up (gm_up σ.2.1 5 (upd (σ.2.1 5) (k - 1) (σ.2.1 4 y))) 5 (fl (σ.2.1 4) zs (k - 1) (upd (σ.2.1 5) (k - 1) (σ.2.1 4 y))) = gm_up σ.2.1 5 (fl (σ.2.1 4) (y :: zs) k (σ.2.1 5)) := by
      funext j
      unfold gm_up
      by_cases h : j = 5
      · simp [h, fl]
      · simp [h]
    have h2 : sp_Sk_keepRun_33 m v1 v2 (Int32.ofNat (f y)) (Int32.ofNat (k - 1) + -1) (σ.1, gm_up σ.2.1 5 (upd (σ.2.1 5) (k - 1) (σ.2.1 4 y)), σ.2.2.1, σ.2.2.2.1, σ.2.2.2.2.1, σ.2.2.2.2.2) = _ := this
    rw [h2]
    exact congrArg (fun w => some (σ.1, w, σ.2.2)) hup
theorem way_run {σ : gm_S} {σs : ck_S} {y : Nat} {set : Int32} (hy : y < N) (hN : N ≤ 300) (h53 : σ.2 53 0 = -1) (hf : ∀ z, 0 < z → z < N → ∃ j, j < z ∧ σ.2 53 z = Int32.ofNat j ∧ σs.2.1 3 z = Int32.ofNat j ∧ σ.2 54 z = σs.2.1 4 z) :
    ∃ (L : Nat) (W R : Nat → Int32), L ≤ 300 ∧ sp_Md_findWay (Int32.ofNat y) set σ = some (upd σ.1 55 (Int32.ofNat L), gm_up σ.2 56 W) ∧ sp_Sk_keepRun (Int32.ofNat y) set σs = some (upd σs.1 7 (Int32.ofNat L), gm_up σs.2.1 5 R, σs.2.2) ∧ ∀ i, i < L → W i = R i := by
  let g : Nat → Nat := fun z => (σ.2 53 z).toNatClampNeg
  have hg : ∀ z, 0 < z → z < N → g z < z ∧ σ.2 53 z = Int32.ofNat (g z) ∧ σs.2.1 3 z = Int32.ofNat (g z) := by
    intro z h1 h2
    obtain ⟨j, j1, j2, j3, _⟩ := hf z h1 h2
    have : g z = j := by
      show (σ.2 53 z).toNatClampNeg = j
      rw [j2, cl_of (by omega)]
    rw [this]
    exact ⟨j1, j2, j3⟩
  obtain ⟨l, l1, l2, l3⟩ := pth_ex g y (fun z h1 h2 => (hg z h1 (by omega)).1)
  have hlN : ∀ z ∈ l, z < N := fun z hz => by have := l3 z hz; omega
  have hl0 : ∀ z ∈ l, 0 < z := by
    intro z hz
    clear l2 l3 hlN
    induction l generalizing y with
    | nil => cases hz
    | cons w ws ih =>
      obtain ⟨q1, q2, q3⟩ := l1
      rcases List.mem_cons.mp hz with e | e
      · omega
      · by_cases hw : g w < N
        · exact ih hw q3 e
        · have := (hg w q2 (by omega)).1
          omega
  refine ⟨l.length + 1, fl (σ.2 54) l l.length (upd (σ.2 56) l.length set), fl (σs.2.1 4) l l.length (upd (σs.2.1 5) l.length set), by omega, ?_, ?_, fun i hi => ?_⟩
  · unfold sp_Md_findWay
    rw [fw_7 (f := g) (N := N) l y 1 2601 (upd σ.1 55 1, σ.2) l1 hlN hy hN (by omega) (by omega) (by omega) rfl h53 (fun z a b => ⟨(hg z a b).2.1, (hg z a b).1⟩)]
    have e1 : 1 + l.length - 1 = l.length := by omega
    rw [e1]
    simp only
    rw [fw_54 (f := g) (N := N) l y l.length 2601 (upd (upd σ.1 55 1) 55 (Int32.ofNat (1 + l.length)), gm_up σ.2 56 (upd (σ.2 56) l.length set)) l1 rfl hlN hy hN (by omega) (by omega) h53 (fun z a b => ⟨(hg z a b).2.1, (hg z a b).1⟩)]
    simp only
    rw [upd_upd, Nat.add_comm 1 l.length]
    have hup : gm_up (gm_up σ.2 56 (upd (σ.2 56) l.length set)) 56 (fl (σ.2 54) l l.length (upd (σ.2 56) l.length set)) = gm_up σ.2 56 (fl (σ.2 54) l l.length (upd (σ.2 56) l.length set)) := by
      funext j
      unfold gm_up
      by_cases h : j = 56 <;> simp [h]
    exact congrArg (fun w => some (upd σ.1 55 (Int32.ofNat (l.length + 1)), w)) hup
  · unfold sp_Sk_keepRun sp_Sk_ticksTo
    have h4 := tt_4 (f := g) (N := N) (v1 := Int32.ofNat y) l y 0 2601 σs l1 hlN hy hN (by omega) (by omega) (fun z a b => ⟨(hg z a b).2.2, (hg z a b).1⟩)
    rw [Nat.zero_add] at h4
    rw [show (0 : Int32) = Int32.ofNat 0 from rfl, h4]
    simp only
    rw [ofN_s, sb2 (by omega), Nat.add_sub_cancel, if_pos (gi_of (by omega : l.length < 301) (by decide)), cl_of (by omega)]
    have e2 : Int32.ofNat (l.length + 1) - 2 = Int32.ofNat l.length + (-1) := by
      rw [← ofN_s, Int32.sub_eq_add_neg, Int32.add_assoc]
      rfl
    rw [e2]
    have h5 := kr_33 (f := g) (N := N) (v1 := Int32.ofNat y) (v2 := set) l y l.length 2601 (upd σs.1 7 (Int32.ofNat (l.length + 1)), gm_up σs.2.1 5 (upd (σs.2.1 5) l.length set), σs.2.2) l1 rfl hlN hy hN (by omega) (by omega) (fun z a b => ⟨(hg z a b).2.2, (hg z a b).1⟩)
    have h6 : sp_Sk_keepRun_33 2601 (Int32.ofNat y) set (Int32.ofNat y) (Int32.ofNat l.length + -1) (upd σs.1 7 (Int32.ofNat (l.length + 1)), gm_up σs.2.1 5 (upd (σs.2.1 5) l.length set), σs.2.2.1, σs.2.2.2.1, σs.2.2.2.2.1, σs.2.2.2.2.2) = _ := h5
    rw [h6]
    have hup : gm_up (gm_up σs.2.1 5 (upd (σs.2.1 5) l.length set)) 5 (fl (σs.2.1 4) l l.length (upd (σs.2.1 5) l.length set)) = gm_up σs.2.1 5 (fl (σs.2.1 4) l l.length (upd (σs.2.1 5) l.length set)) := by
      funext j
      unfold gm_up
      by_cases h : j = 5 <;> simp [h]
    exact congrArg (fun w => some (upd σs.1 7 (Int32.ofNat (l.length + 1)), w, σs.2.2)) hup
  · by_cases h : i < l.length
    · refine fl_eq _ _ l l.length _ _ rfl (fun z hz => ?_) i h
      obtain ⟨j, _, _, _, j4⟩ := hf z (hl0 z hz) (hlN z hz)
      exact j4
    · have hi' : i = l.length := by omega
      rw [fl_hi _ l l.length _ i (Nat.le_refl _) (by omega), fl_hi _ l l.length _ i (Nat.le_refl _) (by omega), hi', upd_eq, upd_eq]
end S2
