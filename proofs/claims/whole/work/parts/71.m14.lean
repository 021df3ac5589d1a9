abbrev kd_R : Type := (Int32 × Nat) × (Nat × Nat) × (Nat × Nat) × (Nat × Nat)
def pz : List kd_R → Nat → Nat → Prop
  | [], u, v => u = v
  | x :: xs, u, v => x.2.2.2.1 = u ∧ pz xs x.2.2.2.2 v
def oS (kd c o : Int32) : Int32 := if kd = 3 then c ||| o else if kd = 10 then q_gr c o else if kd = 9 then (if c &&& 1 = 0 then c else (c &&& (-2)) ||| o) else c
def oE (kd c : Int32) : Int32 := if kd = 6 then q_low c else if kd = 4 then c &&& (-2) else c
def zoN (T : mw_A) (pn : Nat) : List kd_R → Prop
  | [] => T 26 pn = (if T 20 pn = 7 then (1 : Int32) <<< (T 22 pn &&& 31) else if T 20 pn = 1 then 2 else 1)
  | x :: xs => T 26 pn = oE (T 20 pn) (xs.foldl (fun c y => oS (T 20 pn) c (T 26 y.1.1.toNatClampNeg)) (T 26 x.1.1.toNatClampNeg))
def lt_ok (T : mw_A) (β : Nat → Int32) (pn : Nat) (vl : Int32) (Γ : Nat → Bool) (g : Bool) : Prop := ∃ j, j < 26 ∧ T 21 pn = Int32.ofNat j ∧ vl = β j ∧ β j ≠ 0 ∧ Γ j = g
def kc (T : mw_A) (β : Nat → Int32) (Γ : Nat → Bool) (t pn u v : Nat) (vl : Int32) (kids : List kd_R) : Prop :=
  (T 20 pn = 0 ∧ kids = []) ∨
  (T 20 pn = 1 ∧ kids = [] ∧ v = u + 1 ∧ vl = T 25 pn) ∨
  (T 20 pn = 2 ∧ kids = [] ∧ lt_ok T β pn vl Γ true) ∨
  (T 20 pn = 3 ∧ kids.length = 2 ∧ lt_ok T β pn vl Γ true) ∨
  (T 20 pn = 4 ∧ kids.length = 1 ∧ ∀ y ∈ kids, bt (T 26 y.1.1.toNatClampNeg) 0 = false) ∨
  (T 20 pn = 5 ∧ kids.length = 1 ∧ lt_ok T β pn vl Γ true) ∨
  (T 20 pn = 6 ∧ kids.length = 1) ∨
  (T 20 pn = 7 ∧ kids = [] ∧ ∃ k, 2 ≤ k ∧ k ≤ 1 + t ∧ k < 16 ∧ T 22 pn = Int32.ofNat k ∧ vl = Int32.ofNat k) ∨
  (T 20 pn = 8 ∧ kids.length = 1 ∧ lt_ok T β pn vl Γ false) ∨
  (T 20 pn = 9 ∧ 2 ≤ kids.length) ∨
  (T 20 pn = 10 ∧ 2 ≤ kids.length)
def gN (T : mw_A) (Γ : Nat → Bool) (pn : Nat) : Nat → Bool := if T 20 pn = 8 then zext Γ (T 21 pn).toNatClampNeg else Γ
def ztN (T : mw_A) (t pn : Nat) : Nat := if T 20 pn = 6 then t + 1 else t
def rgd (T : mw_A) (x : kd_R) : Prop := x.2.2.1.1 < x.1.2 ∧ x.1.2 + 2 = x.2.2.1.2 ∧ T 20 x.1.1.toNatClampNeg = 4
def nR (T : mw_A) (E : ck_E) (β : Nat → Int32) : Nat → (Nat → Bool) → Nat → kd_R → Prop
  | 0, _, _, _ => False
  | n + 1, Γ, t, x => gi x.1.1 2600 = true ∧ x.2.1.1 ≤ x.1.1.toNatClampNeg ∧ x.1.1.toNatClampNeg < x.2.1.2 ∧ x.2.1.2 ≤ 2600 ∧ (x.2.2.1.1 ≤ x.1.2 ∧ x.1.2 < x.2.2.1.2) ∧ egI E x.1.2 2 0 = some (T 20 x.1.1.toNatClampNeg) ∧ egI E x.1.2 2 3 = some (T 25 x.1.1.toNatClampNeg) ∧ egI E x.1.2 2 4 = some (T 26 x.1.1.toNatClampNeg) ∧ x.2.2.2.1 ≤ x.2.2.2.2 ∧ x.2.2.2.2 ≤ 30 ∧ (∀ i, bt (T 25 x.1.1.toNatClampNeg) i = decide (x.2.2.2.1 ≤ i ∧ i < x.2.2.2.2)) ∧ ∃ (vl : Int32) (c : Option Nat) (kids : List kd_R), egI E x.1.2 2 1 = some vl ∧ egR E x.1.2 2 2 = some c ∧ chn T E (kids.map (fun y => y.1)) (T 23 x.1.1.toNatClampNeg) c ∧ kids.length ≤ 2600 ∧
      (∀ y ∈ kids, x.2.1.1 ≤ y.2.1.1 ∧ y.2.1.2 ≤ x.2.1.2 ∧ (x.1.1.toNatClampNeg < y.2.1.1 ∨ y.2.1.2 ≤ x.1.1.toNatClampNeg) ∧ (x.2.2.1.1 ≤ y.2.2.1.1 ∧ y.2.2.1.2 ≤ x.2.2.1.2) ∧ (x.1.2 < y.2.2.1.1 ∨ y.2.2.1.2 ≤ x.1.2 ∨ rgd T x) ∧ nR T E β n (gN T Γ x.1.1.toNatClampNeg) (ztN T t x.1.1.toNatClampNeg) y) ∧
      (∀ q, x.2.1.1 ≤ q → q < x.2.1.2 → q = x.1.1.toNatClampNeg ∨ ∃ y ∈ kids, y.2.1.1 ≤ q ∧ q < y.2.1.2) ∧
      (T 20 x.1.1.toNatClampNeg ≠ 1 → pz kids x.2.2.2.1 x.2.2.2.2) ∧ zoN T x.1.1.toNatClampNeg kids ∧ kc T β Γ t x.1.1.toNatClampNeg x.2.2.2.1 x.2.2.2.2 vl kids ∧ t ≤ 14
section N1
variable {T : mw_A} {S : Int32} {E : ck_E} {β : Nat → Int32}
theorem nR_mask {n t : Nat} {Γ : Nat → Bool} {x : kd_R} (h : nR T E β n Γ t x) (i : Nat) : bt (T 25 x.1.1.toNatClampNeg) i = decide (x.2.2.2.1 ≤ i ∧ i < x.2.2.2.2) := by
  cases n with
  | zero => exact absurd h id
  | succ n => exact h.2.2.2.2.2.2.2.2.2.2.1 i
theorem pz_in : ∀ (kids : List kd_R) (u v i : Nat), pz kids u v → u ≤ i → i < v → ∃ y ∈ kids, y.2.2.2.1 ≤ i ∧ i < y.2.2.2.2 := by
  intro kids
  induction kids with
  | nil =>
    intro u v i h hu hv
    have : u = v := h
    omega
  | cons y ys ih =>
    intro u v i h hu hv
    obtain ⟨h1, h2⟩ := h
    by_cases hi : i < y.2.2.2.2
    · exact ⟨y, by simp, by omega, hi⟩
    · obtain ⟨z, hz, hq⟩ := ih _ _ i h2 (by omega) hv
      exact ⟨z, List.mem_cons_of_mem _ hz, hq⟩
theorem stands_kid {n t : Nat} {Γ : Nat → Bool} {kids : List kd_R} {w : Int32} {u v : Nat} (hm : ∀ i, bt w i = decide (u ≤ i ∧ i < v)) (hz : pz kids u v) (hk : ∀ y ∈ kids, nR T E β n Γ t y) (hs : w &&& S ≠ 0) : ∃ z ∈ kids.map (fun y => y.1), T 25 z.1.toNatClampNeg &&& S ≠ 0 := by
  obtain ⟨i, _, hi⟩ := bt_nz hs
  rw [bt_and, Bool.and_eq_true, hm i, decide_eq_true_iff] at hi
  obtain ⟨y, hy, hq⟩ := pz_in kids u v i hz hi.1.1 hi.1.2
  refine ⟨y.1, List.mem_map_of_mem hy, fun h0 => ?_⟩
  have h1 := (bt_az.mp h0) i (by rw [nR_mask (hk y hy) i, decide_eq_true_iff]; exact hq)
  rw [hi.2] at h1
  cases h1
theorem len1 {α : Type} {l : List α} (h : l.length = 1) : ∃ x, l = [x] := by
  cases l with
  | nil => cases h
  | cons a l => cases l with
    | nil => exact ⟨a, rfl⟩
    | cons b l => simp at h
theorem len2 {α : Type} {l : List α} (h : l.length = 2) : ∃ x y, l = [x, y] := by
  cases l with
  | nil => cases h
  | cons a l => cases l with
    | nil => simp at h
    | cons b l => cases l with
      | nil => exact ⟨a, b, rfl⟩
      | cons c l => simp at h
theorem ws_nR (hO : bO β) : ∀ (n : Nat) (Γ : Nat → Bool) (t : Nat) (x : kd_R), nR T E β n Γ t x → ∀ n1 n2, n < n1 → n < n2 → WS T S E β (mw T S n1) (tw n2) Γ x.1.1 x.1.2 := by
  intro n
  induction n with
  | zero => intro Γ t x h; exact absurd h id
  | succ n ih =>
    intro Γ t x h n1 n2 hn1 hn2
    obtain ⟨n1, rfl⟩ : ∃ m, n1 = m + 1 := ⟨n1 - 1, by omega⟩
    obtain ⟨n2, rfl⟩ : ∃ m, n2 = m + 1 := ⟨n2 - 1, by omega⟩
    obtain ⟨hp, _, _, _, _, e0, e3, _, _, _, hm, vl, c, kids, e1, e2, hch, hlen, hk, _, hz, _, hkc, _⟩ := h
    rw [mw_su, tw_su]
    have hf : ∃ f', ∀ res K, mw T S n1 false x.1.1 res 0 K = mw_must T S f' x.1.1 res K := by
      obtain ⟨n1, rfl⟩ : ∃ m, n1 = m + 1 := ⟨n1 - 1, by omega⟩
      exact ⟨mw T S n1, fun res K => by rw [mw_su, mwF_m hp]⟩
    have hW : ∀ y ∈ kids, WS T S E β (mw T S n1) (tw n2) (gN T Γ x.1.1.toNatClampNeg) y.1.1 y.1.2 := fun y hy => ih _ _ _ (hk y hy).2.2.2.2.2 _ _ (by omega) (by omega)
    have hst : T 20 x.1.1.toNatClampNeg ≠ 1 → T 25 x.1.1.toNatClampNeg &&& S ≠ 0 → ∃ z ∈ kids.map (fun y => y.1), T 25 z.1.toNatClampNeg &&& S ≠ 0 := fun h1 hs => stands_kid hm (hz h1) (fun y hy => (hk y hy).2.2.2.2.2) hs
    have hW' : ∀ z ∈ kids.map (fun y => y.1), WS T S E β (mw T S n1) (tw n2) (gN T Γ x.1.1.toNatClampNeg) z.1 z.2 := by
      intro z hz
      obtain ⟨y, hy, rfl⟩ := List.mem_map.mp hz
      exact hW y hy
    have one : ∀ y : kd_R, kids = [y] → T 20 x.1.1.toNatClampNeg ≠ 1 → chn T E [y.1] (T 23 x.1.1.toNatClampNeg) (some y.1.2) ∧ c = some y.1.2 ∧ (T 25 x.1.1.toNatClampNeg &&& S ≠ 0 → T 25 y.1.1.toNatClampNeg &&& S ≠ 0) := by
      intro y hy h1
      rw [hy] at hch
      have hc : c = some y.1.2 := hch.2.1
      rw [hc] at hch
      refine ⟨hch, hc, fun hs => ?_⟩
      obtain ⟨z, hz, hq⟩ := hst h1 hs
      rw [hy] at hz
      rw [List.mem_singleton.mp hz] at hq
      exact hq
    have gn : T 20 x.1.1.toNatClampNeg ≠ 8 → gN T Γ x.1.1.toNatClampNeg = Γ := fun h => if_neg h
    rcases hkc with ⟨hd, hk0⟩ | ⟨hd, hk0, hv⟩ | ⟨hd, hk0, hl⟩ | ⟨hd, hk0, hl⟩ | ⟨hd, hk0, _⟩ | ⟨hd, hk0, hl⟩ | ⟨hd, hk0⟩ | ⟨hd, hk0, kk, k1, kt, k2, k3, k4⟩ | ⟨hd, hk0, hl⟩ | ⟨hd, hk0⟩ | ⟨hd, hk0⟩
    · exact ws_0 hp hd (by rw [e0, hd]) hf
    · exact ws_1 hp hd (by rw [e0, hd]) hf
    · obtain ⟨j, hj, l1, l2, l3, l4⟩ := hl
      exact ws_2 hp hd (by rw [e0, hd]) hj l1 (by rw [e1, l2]) hO l3 hf
    · obtain ⟨j, hj, l1, l2, l3, l4⟩ := hl
      obtain ⟨y, z, hyz⟩ := len2 hk0
      rw [gn (by rw [hd]; decide)] at hW'
      have hst' := hst (by rw [hd]; decide)
      rw [hyz] at hW' hst' hch
      have hc : c = some y.1.2 := hch.2.1
      rw [hc] at hch e2
      exact ws_3 (x := y.1) (y := z.1) hp hd (by rw [e0, hd]) hj l4 l1 (by rw [e1, l2]) hch e2 hst' hW'
    · obtain ⟨y, hy⟩ := len1 hk0
      obtain ⟨o1, o2, o3⟩ := one y hy (by rw [hd]; decide)
      rw [gn (by rw [hd]; decide)] at hW
      exact ws_4 hp hd (by rw [e0, hd]) o1 (by rw [e2, o2]) o3 (hW y (by rw [hy]; simp))
    · obtain ⟨j, hj, l1, l2, l3, l4⟩ := hl
      obtain ⟨y, hy⟩ := len1 hk0
      obtain ⟨o1, o2, o3⟩ := one y hy (by rw [hd]; decide)
      rw [gn (by rw [hd]; decide)] at hW
      exact ws_5 hp hd (by rw [e0, hd]) hj l4 l1 (by rw [e1, l2]) o1 (by rw [e2, o2]) o3 (hW y (by rw [hy]; simp))
    · obtain ⟨y, hy⟩ := len1 hk0
      obtain ⟨o1, o2, o3⟩ := one y hy (by rw [hd]; decide)
      rw [gn (by rw [hd]; decide)] at hW
      exact ws_6 hp hd (by rw [e0, hd]) o1 (by rw [e2, o2]) o3 (hW y (by rw [hy]; simp))
    · exact ws_7 hp hd (by rw [e0, hd]) k2 k3 (by rw [e1, k4]) hf
    · obtain ⟨j, hj, l1, l2, l3, l4⟩ := hl
      obtain ⟨y, hy⟩ := len1 hk0
      obtain ⟨o1, o2, o3⟩ := one y hy (by rw [hd]; decide)
      have hg : gN T Γ x.1.1.toNatClampNeg = zext Γ j := by
        unfold gN
        rw [if_pos hd, l1, cl_of (by omega)]
      rw [hg] at hW
      exact ws_8 hp hd (by rw [e0, hd]) hj l4 l1 (by rw [e1, l2]) hO l3 o1 (by rw [e2, o2]) o3 (hW y (by rw [hy]; simp))
    · rw [gn (by rw [hd]; decide)] at hW'
      exact ws_9 hp hd (by rw [e0, hd]) hch e2 (by intro e; have := congrArg List.length e; simp at this; rw [this] at hk0; simp at hk0) (by simp; exact hlen) (hst (by rw [hd]; decide)) hW'
    · rw [gn (by rw [hd]; decide)] at hW'
      exact ws_10 hp hd (by rw [e0, hd]) hch e2 (by intro e; have := congrArg List.length e; simp at this; rw [this] at hk0; simp at hk0) (by simp; exact hlen) (hst (by rw [hd]; decide)) hW'
end N1
