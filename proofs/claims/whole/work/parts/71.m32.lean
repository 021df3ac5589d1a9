section X1
variable {T T' : mw_A} {E E' : ck_E} {β β' : Nat → Int32}
theorem nR_mono : ∀ (n m : Nat) (Γ : Nat → Bool) (t : Nat) (x : kd_R), n ≤ m → nR T E β n Γ t x → nR T E β m Γ t x := by
  intro n
  induction n with
  | zero => intro m Γ t x _ h; exact absurd h id
  | succ n ih =>
    intro m Γ t x hm h
    obtain ⟨m, rfl⟩ : ∃ j, m = j + 1 := ⟨m - 1, by omega⟩
    obtain ⟨h1, h2, h3, h4, h5, h6, h7, h8, h9, h10, h11, vl, c, kids, k1, k2, k3, k4, k5, k6⟩ := h
    exact ⟨h1, h2, h3, h4, h5, h6, h7, h8, h9, h10, h11, vl, c, kids, k1, k2, k3, k4, fun y hy => ⟨(k5 y hy).1, (k5 y hy).2.1, (k5 y hy).2.2.1, (k5 y hy).2.2.2.1, (k5 y hy).2.2.2.2.1, ih m _ _ _ (by omega) (k5 y hy).2.2.2.2.2⟩, k6⟩
theorem gi_cl {p : Int32} {n : Nat} (h : gi p n = true) : p.toNatClampNeg < n := by
  unfold gi at h
  rw [Bool.and_eq_true] at h
  exact Nat.le_of_ble_eq_true h.2
def agR (T T' : mw_A) (E E' : ck_E) (x : kd_R) : Prop :=
  (∀ j q, 20 ≤ j → j ≤ 26 → x.2.1.1 ≤ q → q < x.2.1.2 → (j ≠ 24 ∨ q ≠ x.1.1.toNatClampNeg) → T' j q = T j q) ∧
  (∀ q, x.2.2.1.1 ≤ q → q < x.2.2.1.2 → q ≠ x.1.2 → E' q = E q) ∧
  (∀ j, j < 5 → eg E' x.1.2 2 j = eg E x.1.2 2 j) ∧ (rgd T x → E' x.1.2 = E x.1.2)
theorem egI_e {b ci j : Nat} (h : eg E' b ci j = eg E b ci j) : egI E' b ci j = egI E b ci j := by
  unfold egI
  rw [h]
theorem egR_e {b ci j : Nat} (h : eg E' b ci j = eg E b ci j) : egR E' b ci j = egR E b ci j := by
  unfold egR
  rw [h]
theorem eg_E {b ci j : Nat} (h : E' b = E b) : eg E' b ci j = eg E b ci j := by
  unfold eg
  rw [h]
theorem nR_pi {n t : Nat} {Γ : Nat → Bool} {x : kd_R} (h : nR T E β n Γ t x) : (x.2.1.1 ≤ x.1.1.toNatClampNeg ∧ x.1.1.toNatClampNeg < x.2.1.2) ∧ (x.2.2.1.1 ≤ x.1.2 ∧ x.1.2 < x.2.2.1.2) := by
  cases n with
  | zero => exact absurd h id
  | succ n => exact ⟨⟨h.2.1, h.2.2.1⟩, h.2.2.2.2.1⟩
theorem chn_ag : ∀ (l : List (Int32 × Nat)) (q : Int32) (c : Option Nat), (∀ y ∈ l, T' 24 y.1.toNatClampNeg = T 24 y.1.toNatClampNeg ∧ T' 25 y.1.toNatClampNeg = T 25 y.1.toNatClampNeg ∧ E' y.2 = E y.2) → chn T E l q c → chn T' E' l q c := by
  intro l
  induction l with
  | nil => intro q c _ hc; exact hc
  | cons y ys ihl =>
    intro q c ha hc
    obtain ⟨q1, q2, q3, q4, c', q5, q6⟩ := hc
    obtain ⟨a1, a2, a3⟩ := ha y (by simp)
    refine ⟨q1, q2, q3, by rw [egI_e (eg_E a3), a2]; exact q4, c', by rw [egR_e (eg_E a3)]; exact q5, ?_⟩
    rw [a1]
    exact ihl _ _ (fun z hz => ha z (List.mem_cons_of_mem _ hz)) q6
theorem nR_ext : ∀ (n : Nat) (Γ : Nat → Bool) (t : Nat) (x : kd_R), nR T E β n Γ t x → agR T T' E E' x → (∀ j, j < 26 → β j ≠ 0 → β' j = β j) → nR T' E' β' n Γ t x := by
  intro n
  induction n with
  | zero => intro Γ t x h; exact absurd h id
  | succ n ih =>
    intro Γ t x h ha hβ
    obtain ⟨g1, g2, g3, g4⟩ := ha
    obtain ⟨h1, h2, h3, h4, h5, h6, h7, h8, h9, h10, h11, vl, c, kids, k1, k2, k3, k4, k5, k6, k7, k8, k9, k10⟩ := h
    have tp : ∀ j, 20 ≤ j → j ≤ 26 → j ≠ 24 → T' j x.1.1.toNatClampNeg = T j x.1.1.toNatClampNeg := fun j a b c => g1 j _ a b h2 h3 (Or.inl c)
    have e20 := tp 20 (by decide) (by decide) (by decide)
    have e21 := tp 21 (by decide) (by decide) (by decide)
    have e22 := tp 22 (by decide) (by decide) (by decide)
    have e23 := tp 23 (by decide) (by decide) (by decide)
    have e25 := tp 25 (by decide) (by decide) (by decide)
    have e26 := tp 26 (by decide) (by decide) (by decide)
    have hkid : ∀ y ∈ kids, (∀ j q, 20 ≤ j → j ≤ 26 → y.2.1.1 ≤ q → q < y.2.1.2 → T' j q = T j q) ∧ (∀ q, y.2.2.1.1 ≤ q → q < y.2.2.1.2 → E' q = E q) := by
      intro y hy
      obtain ⟨a1, a2, a3, a4, a5, a6⟩ := k5 y hy
      refine ⟨fun j q b1 b2 b3 b4 => g1 j q b1 b2 (by omega) (by omega) (Or.inr (by omega)), fun q b1 b2 => ?_⟩
      by_cases hqa : q = x.1.2
      · rcases a5 with e | e | e
        · omega
        · omega
        · rw [hqa]; exact g4 e
      · exact g2 q (by omega) (by omega) hqa
    have hroot : ∀ y ∈ kids, T' 24 y.1.1.toNatClampNeg = T 24 y.1.1.toNatClampNeg ∧ T' 25 y.1.1.toNatClampNeg = T 25 y.1.1.toNatClampNeg ∧ T' 26 y.1.1.toNatClampNeg = T 26 y.1.1.toNatClampNeg ∧ E' y.1.2 = E y.1.2 := by
      intro y hy
      obtain ⟨b1, b2⟩ := hkid y hy
      obtain ⟨⟨p1, p2⟩, p3, p4⟩ := nR_pi (k5 y hy).2.2.2.2.2
      exact ⟨b1 24 _ (by decide) (by decide) p1 p2, b1 25 _ (by decide) (by decide) p1 p2, b1 26 _ (by decide) (by decide) p1 p2, b2 _ p3 p4⟩
    have hgN : gN T' Γ x.1.1.toNatClampNeg = gN T Γ x.1.1.toNatClampNeg := by unfold gN; rw [e20, e21]
    have htN : ztN T' t x.1.1.toNatClampNeg = ztN T t x.1.1.toNatClampNeg := by unfold ztN; rw [e20]
    have hlt : ∀ g, lt_ok T β x.1.1.toNatClampNeg vl Γ g → lt_ok T' β' x.1.1.toNatClampNeg vl Γ g := by
      rintro g ⟨j, j1, j2, j3, j4, j5⟩
      have hb := hβ j j1 j4
      exact ⟨j, j1, by rw [e21]; exact j2, by rw [hb]; exact j3, by rw [hb]; exact j4, j5⟩
    refine ⟨h1, h2, h3, h4, h5, by rw [egI_e (g3 0 (by decide)), e20]; exact h6, by rw [egI_e (g3 3 (by decide)), e25]; exact h7, by rw [egI_e (g3 4 (by decide)), e26]; exact h8, h9, h10, by rw [e25]; exact h11, vl, c, kids, by rw [egI_e (g3 1 (by decide))]; exact k1, by rw [egR_e (g3 2 (by decide))]; exact k2, ?_, k4, fun y hy => ?_, k6, by rw [e20]; exact k7, ?_, ?_, k10⟩
    · rw [e23]
      refine chn_ag _ _ _ (fun z hz => ?_) k3
      obtain ⟨y, hy, rfl⟩ := List.mem_map.mp hz
      obtain ⟨r1, r2, r3, r4⟩ := hroot y hy
      exact ⟨r1, r2, r4⟩
    · obtain ⟨a1, a2, a3, a4, a5, a6⟩ := k5 y hy
      obtain ⟨b1, b2⟩ := hkid y hy
      refine ⟨a1, a2, a3, a4, by unfold rgd at a5 ⊢; rw [e20]; exact a5, ?_⟩
      rw [hgN, htN]
      exact ih _ _ y a6 ⟨fun j q c1 c2 c3 c4 _ => b1 j q c1 c2 c3 c4, fun q c1 c2 _ => b2 q c1 c2, fun j _ => eg_E (hroot y hy).2.2.2, fun _ => (hroot y hy).2.2.2⟩ hβ
    · cases kids with
      | nil =>
        have k8' : T 26 x.1.1.toNatClampNeg = (if T 20 x.1.1.toNatClampNeg = 7 then (1 : Int32) <<< (T 22 x.1.1.toNatClampNeg &&& 31) else if T 20 x.1.1.toNatClampNeg = 1 then 2 else 1) := k8
        show T' 26 x.1.1.toNatClampNeg = (if T' 20 x.1.1.toNatClampNeg = 7 then (1 : Int32) <<< (T' 22 x.1.1.toNatClampNeg &&& 31) else if T' 20 x.1.1.toNatClampNeg = 1 then 2 else 1)
        rw [e26, e20, e22]
        exact k8'
      | cons y ys =>
        have k8' : T 26 x.1.1.toNatClampNeg = oE (T 20 x.1.1.toNatClampNeg) (ys.foldl (fun c y => oS (T 20 x.1.1.toNatClampNeg) c (T 26 y.1.1.toNatClampNeg)) (T 26 y.1.1.toNatClampNeg)) := k8
        show T' 26 x.1.1.toNatClampNeg = oE (T' 20 x.1.1.toNatClampNeg) (ys.foldl (fun c y => oS (T' 20 x.1.1.toNatClampNeg) c (T' 26 y.1.1.toNatClampNeg)) (T' 26 y.1.1.toNatClampNeg))
        rw [e26, e20, (hroot y (by simp)).2.2.1, k8']
        have : ∀ (l : List kd_R) (z : Int32), (∀ w ∈ l, T' 26 w.1.1.toNatClampNeg = T 26 w.1.1.toNatClampNeg) → l.foldl (fun c y => oS (T 20 x.1.1.toNatClampNeg) c (T 26 y.1.1.toNatClampNeg)) z = l.foldl (fun c y => oS (T 20 x.1.1.toNatClampNeg) c (T' 26 y.1.1.toNatClampNeg)) z := by
          intro l
          induction l with
          | nil => intro z _; rfl
          | cons w ws ihw =>
            intro z hw
            show List.foldl _ (oS _ z (T 26 w.1.1.toNatClampNeg)) ws = List.foldl _ (oS _ z (T' 26 w.1.1.toNatClampNeg)) ws
            rw [hw w (by simp)]
            exact ihw _ (fun v hv => hw v (List.mem_cons_of_mem _ hv))
        rw [this ys _ (fun w hw => (hroot w (List.mem_cons_of_mem _ hw)).2.2.1)]
    · unfold kc at k9 ⊢
      rw [e20, e22, e25]
      rcases k9 with ⟨hd, hk0⟩ | ⟨hd, hk0, hv⟩ | ⟨hd, hk0, hl⟩ | ⟨hd, hk0, hl⟩ | ⟨hd, hk0, hl0⟩ | ⟨hd, hk0, hl⟩ | ⟨hd, hk0⟩ | ⟨hd, hk0, hl⟩ | ⟨hd, hk0, hl⟩ | ⟨hd, hk0⟩ | ⟨hd, hk0⟩
      · exact Or.inl ⟨hd, hk0⟩
      · exact Or.inr (Or.inl ⟨hd, hk0, hv⟩)
      · exact Or.inr (Or.inr (Or.inl ⟨hd, hk0, hlt _ hl⟩))
      · exact Or.inr (Or.inr (Or.inr (Or.inl ⟨hd, hk0, hlt _ hl⟩)))
      · exact Or.inr (Or.inr (Or.inr (Or.inr (Or.inl ⟨hd, hk0, fun y hy => by rw [(hroot y hy).2.2.1]; exact hl0 y hy⟩))))
      · exact Or.inr (Or.inr (Or.inr (Or.inr (Or.inr (Or.inl ⟨hd, hk0, hlt _ hl⟩)))))
      · exact Or.inr (Or.inr (Or.inr (Or.inr (Or.inr (Or.inr (Or.inl ⟨hd, hk0⟩))))))
      · exact Or.inr (Or.inr (Or.inr (Or.inr (Or.inr (Or.inr (Or.inr (Or.inl ⟨hd, hk0, hl⟩)))))))
      · exact Or.inr (Or.inr (Or.inr (Or.inr (Or.inr (Or.inr (Or.inr (Or.inr (Or.inl ⟨hd, hk0, hlt _ hl⟩))))))))
      · exact Or.inr (Or.inr (Or.inr (Or.inr (Or.inr (Or.inr (Or.inr (Or.inr (Or.inr (Or.inl ⟨hd, hk0⟩)))))))))
      · exact Or.inr (Or.inr (Or.inr (Or.inr (Or.inr (Or.inr (Or.inr (Or.inr (Or.inr (Or.inr ⟨hd, hk0⟩)))))))))
end X1
