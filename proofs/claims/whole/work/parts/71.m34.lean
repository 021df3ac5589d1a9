def nC (kd v : Int32) (c : Option Nat) (w o : Int32) (nx : Option Nat) : gx_C := .inr (2, [.int kd, .int v, va_rf c, .int w, .int o, va_rf nx])
def nD : gx_C := .inr (2, gx_def gx_kd2)
section D1
variable {E : ck_E} {a : Nat} {kd v w o : Int32} {c nx : Option Nat}
theorem va_rfR {E : ck_E} {b k : Nat} {fs : List Value} {x : Option Nat} (h : E b = some (.inr (2, fs))) (hk : fs[k]? = some (va_rf x)) : egR E b 2 k = some x := by
  unfold egR eg
  rw [h]
  simp only [if_true]
  rw [hk]
  cases x <;> rfl
theorem nC_0 (h : E a = some (nC kd v c w o nx)) : egI E a 2 0 = some kd := by
  unfold egI eg
  rw [h]
  rfl
theorem nC_1 (h : E a = some (nC kd v c w o nx)) : egI E a 2 1 = some v := by
  unfold egI eg
  rw [h]
  rfl
theorem nC_2 (h : E a = some (nC kd v c w o nx)) : egR E a 2 2 = some c := va_rfR h rfl
theorem nC_3 (h : E a = some (nC kd v c w o nx)) : egI E a 2 3 = some w := by
  unfold egI eg
  rw [h]
  rfl
theorem nC_4 (h : E a = some (nC kd v c w o nx)) : egI E a 2 4 = some o := by
  unfold egI eg
  rw [h]
  rfl
theorem nC_5 (h : E a = some (nC kd v c w o nx)) : egR E a 2 5 = some nx := va_rfR h rfl
theorem ep_eq {fs : List Value} {k : Nat} {z : Value} (h : E a = some (.inr (2, fs))) (hk : k < fs.length) : ep E a 2 k z = some (eset E a (.inr (2, fs.set k z))) := by
  unfold ep
  rw [h]
  simp only [if_true]
  rw [if_pos hk]
theorem eset2 {x y : gx_C} : eset (eset E a x) a y = eset E a y := by
  funext q
  unfold eset
  by_cases hq : q = a <;> simp [hq]
def lch (E : ck_E) : List (Nat × Int32 × Int32) → Option Nat → Prop
  | [], c => c = none
  | x :: xs, c => c = some x.1 ∧ egI E x.1 2 3 = some x.2.1 ∧ egI E x.1 2 4 = some x.2.2 ∧ ∃ c', egR E x.1 2 5 = some c' ∧ lch E xs c'
theorem lch_es {z : gx_C} : ∀ (l : List (Nat × Int32 × Int32)) (c : Option Nat), (∀ x ∈ l, x.1 ≠ a) → lch E l c → lch (eset E a z) l c := by
  intro l
  induction l with
  | nil => intro c _ h; exact h
  | cons x xs ih =>
    intro c hne h
    obtain ⟨h1, h2, h3, c', h4, h5⟩ := h
    have hx : eset E a z x.1 = E x.1 := eset_ne (hne x (by simp))
    exact ⟨h1, by rw [egI_e (eg_E hx)]; exact h2, by rw [egI_e (eg_E hx)]; exact h3, c', by rw [egR_e (eg_E hx)]; exact h4, ih c' (fun y hy => hne y (List.mem_cons_of_mem _ hy)) h5⟩
def lW : List (Nat × Int32 × Int32) → Int32 → Int32
  | [], z => z
  | x :: xs, z => lW xs (z ||| x.2.1)
def sC (kd c o : Int32) : Int32 := if kd = 3 then c ||| o else if kd = 10 then q_Codes_greater c o else if c &&& 1 = 0 then c else (c &&& (-2)) ||| o
def lO (kd : Int32) : List (Nat × Int32 × Int32) → Int32 → Int32
  | [], z => z
  | x :: xs, z => lO kd xs (sC kd z x.2.2)
theorem po_4 {σ : ck_S} (hE : σ.2.2.2.1 = E) {v0 : Option Nat} : ∀ (l : List (Nat × Int32 × Int32)) (c : Option Nat) (z : Int32) (m : Nat), lch E l c → l.length < m → sp_Node_pausesOf_4 m v0 z c σ = some (lW l z, σ) := by
  intro l
  induction l with
  | nil =>
    intro c z m h hm
    obtain ⟨m, rfl⟩ : ∃ j, m = j + 1 := ⟨m - 1, by simp at hm; omega⟩
    have hc : c = none := h
    subst hc
    rfl
  | cons x xs ih =>
    intro c z m h hm
    obtain ⟨m, rfl⟩ : ∃ j, m = j + 1 := ⟨m - 1, by simp at hm; omega⟩
    obtain ⟨h1, h2, h3, c', h4, h5⟩ := h
    subst h1
    unfold sp_Node_pausesOf_4
    simp only [hE, h2, h4]
    exact ih c' _ m h5 (by simp at hm; omega)
theorem co_86 {σ : ck_S} (hE : σ.2.2.2.1 = E) {kd v : Int32} {v2 : Option Nat} : ∀ (l : List (Nat × Int32 × Int32)) (c : Option Nat) (z : Int32) (m : Nat), lch E l c → l.length < m → sp_Node_codesAtOnce_86 m kd v v2 z c σ = some (lO kd l z, σ) := by
  intro l
  induction l with
  | nil =>
    intro c z m h hm
    obtain ⟨m, rfl⟩ : ∃ j, m = j + 1 := ⟨m - 1, by simp at hm; omega⟩
    have hc : c = none := h
    subst hc
    rfl
  | cons x xs ih =>
    intro c z m h hm
    obtain ⟨m, rfl⟩ : ∃ j, m = j + 1 := ⟨m - 1, by simp at hm; omega⟩
    obtain ⟨h1, h2, h3, c', h4, h5⟩ := h
    subst h1
    have hm' : xs.length < m := by simp at hm; omega
    unfold sp_Node_codesAtOnce_86
    simp only [hE, h3, h4]
    show _ = some (lO kd xs (sC kd z x.2.2), σ)
    unfold sC
    by_cases k3 : kd = 3
    · rw [if_pos k3, if_pos k3]
      exact ih c' _ m h5 hm'
    · rw [if_neg k3, if_neg k3]
      by_cases k10 : kd = 10
      · rw [if_pos k10, if_pos k10]
        exact ih c' _ m h5 hm'
      · rw [if_neg k10, if_neg k10]
        by_cases hz : z &&& 1 = 0
        · rw [if_pos hz, if_pos hz]
          exact ih c' _ m h5 hm'
        · rw [if_neg hz, if_neg hz]
          exact ih c' _ m h5 hm'
def cA (kd v : Int32) : List (Nat × Int32 × Int32) → Int32
  | [] => if kd = 1 then 2 else if kd = 4 then 0 else if kd = 6 then q_Codes_behindTrap 1 else if kd = 7 then (1 : Int32) <<< (v &&& 31) else 1
  | x :: xs => if kd = 1 then 2 else if kd = 4 then x.2.2 &&& (-2) else if kd = 6 then q_Codes_behindTrap x.2.2 else if kd = 7 then (1 : Int32) <<< (v &&& 31) else lO kd xs x.2.2
theorem ca_eq {σ : ck_S} (hE : σ.2.2.2.1 = E) {kd v : Int32} {l : List (Nat × Int32 × Int32)} {c : Option Nat} (h : lch E l c) (hl : l.length < 2601) : sp_Node_codesAtOnce kd v c σ = some (cA kd v l, σ) := by
  cases l with
  | nil =>
    have hc : c = none := h
    subst hc
    have h86 : ∀ z, sp_Node_codesAtOnce_86 2601 kd v none z none σ = some (z, σ) := fun z => co_86 hE [] none z 2601 rfl (by simp)
    unfold sp_Node_codesAtOnce cA
    simp only [h86]
    by_cases k1 : kd = 1
    · rw [if_pos k1, if_pos k1]
    · rw [if_neg k1, if_neg k1]
      by_cases k2 : kd = 2
      · rw [if_pos k2, if_neg (by rw [k2]; decide), if_neg (by rw [k2]; decide), if_neg (by rw [k2]; decide)]
      · rw [if_neg k2]
        by_cases k3 : kd = 3
        · rw [if_pos k3, if_neg (by rw [k3]; decide), if_neg (by rw [k3]; decide), if_neg (by rw [k3]; decide)]
        · rw [if_neg k3]
          by_cases k4 : kd = 4
          · rw [if_pos k4, if_pos k4]
            rfl
          · rw [if_neg k4, if_neg k4]
            by_cases k5 : kd = 5
            · rw [if_pos k5, if_neg (by rw [k5]; decide), if_neg (by rw [k5]; decide)]
            · rw [if_neg k5]
              by_cases k6 : kd = 6
              · rw [if_pos k6, if_pos k6]
              · rw [if_neg k6, if_neg k6]
                by_cases k7 : kd = 7
                · rw [if_pos k7, if_pos k7]
                · rw [if_neg k7, if_neg k7]
  | cons x xs =>
    obtain ⟨h1, h2, h3, c', h4, h5⟩ := h
    subst h1
    have h86 : ∀ z, sp_Node_codesAtOnce_86 2601 kd v (some x.1) z c' σ = some (lO kd xs z, σ) := fun z => co_86 hE xs c' z 2601 h5 (by simp at hl; omega)
    unfold sp_Node_codesAtOnce cA
    simp only [hE, h3, h4, h86]
    by_cases k1 : kd = 1
    · rw [if_pos k1, if_pos k1]
    · rw [if_neg k1, if_neg k1]
      by_cases k2 : kd = 2
      · rw [if_pos k2, if_neg (by rw [k2]; decide), if_neg (by rw [k2]; decide), if_neg (by rw [k2]; decide)]
      · rw [if_neg k2]
        by_cases k3 : kd = 3
        · rw [if_pos k3, if_neg (by rw [k3]; decide), if_neg (by rw [k3]; decide), if_neg (by rw [k3]; decide)]
        · rw [if_neg k3]
          by_cases k4 : kd = 4
          · rw [if_pos k4, if_pos k4]
          · rw [if_neg k4, if_neg k4]
            by_cases k5 : kd = 5
            · rw [if_pos k5, if_neg (by rw [k5]; decide), if_neg (by rw [k5]; decide)]
            · rw [if_neg k5]
              by_cases k6 : kd = 6
              · rw [if_pos k6, if_pos k6]
              · rw [if_neg k6, if_neg k6]
                by_cases k7 : kd = 7
                · rw [if_pos k7, if_pos k7]
                · rw [if_neg k7, if_neg k7]
theorem nd_init {σ : ck_S} (hE : σ.2.2.2.1 = E) {kd v : Int32} {l : List (Nat × Int32 × Int32)} {c : Option Nat} (ha : E a = some nD) (h : lch E l c) (hl : l.length < 2601) (hne : ∀ x ∈ l, x.1 ≠ a) : sp_Node_init a kd v c σ = some (σ.1, σ.2.1, σ.2.2.1, eset E a (nC kd v c (if kd = 1 then v else lW l 0) (cA kd v l) none), σ.2.2.2.2) := by
  unfold sp_Node_init
  have s1 : ep E a 2 5 .null = some (eset E a (.inr (2, [.int 0, .int 0, .null, .int 0, .int 0, .null]))) := by
    rw [ep_eq ha (by decide)]
    rfl
  have s2 : ep (eset E a (.inr (2, [.int 0, .int 0, .null, .int 0, .int 0, .null]))) a 2 0 (.int kd) = some (eset E a (.inr (2, [.int kd, .int 0, .null, .int 0, .int 0, .null]))) := by
    rw [ep_eq eset_eq (by simp), eset2]
    rfl
  have s3 : ep (eset E a (.inr (2, [.int kd, .int 0, .null, .int 0, .int 0, .null]))) a 2 1 (.int v) = some (eset E a (.inr (2, [.int kd, .int v, .null, .int 0, .int 0, .null]))) := by
    rw [ep_eq eset_eq (by simp), eset2]
    rfl
  have s4 : ep (eset E a (.inr (2, [.int kd, .int v, .null, .int 0, .int 0, .null]))) a 2 2 (va_rf c) = some (eset E a (.inr (2, [.int kd, .int v, va_rf c, .int 0, .int 0, .null]))) := by
    rw [ep_eq eset_eq (by simp), eset2]
    rfl
  have s5 : ∀ w : Int32, ep (eset E a (.inr (2, [.int kd, .int v, va_rf c, .int 0, .int 0, .null]))) a 2 3 (.int w) = some (eset E a (.inr (2, [.int kd, .int v, va_rf c, .int w, .int 0, .null]))) := by
    intro w
    rw [ep_eq eset_eq (by simp), eset2]
    rfl
  have s6 : ∀ w o : Int32, ep (eset E a (.inr (2, [.int kd, .int v, va_rf c, .int w, .int 0, .null]))) a 2 4 (.int o) = some (eset E a (nC kd v c w o none)) := by
    intro w o
    rw [ep_eq eset_eq (by simp), eset2]
    rfl
  rw [hE, s1]
  simp only
  rw [s2]
  simp only
  rw [s3]
  simp only
  rw [s4]
  simp only
  by_cases k1 : kd = 1
  · rw [if_pos k1, if_pos k1, s5]
    simp only
    rw [ca_eq (E := eset E a (.inr (2, [.int kd, .int v, va_rf c, .int v, .int 0, .null]))) rfl (lch_es l c hne h) hl]
    simp only
    rw [s6]
  · rw [if_neg k1, if_neg k1]
    have hp := po_4 (E := eset E a (.inr (2, [.int kd, .int v, va_rf c, .int 0, .int 0, .null]))) (σ := (σ.1, σ.2.1, σ.2.2.1, eset E a (.inr (2, [.int kd, .int v, va_rf c, .int 0, .int 0, .null])), σ.2.2.2.2.1, σ.2.2.2.2.2)) rfl (v0 := c) l c 0 2601 (lch_es l c hne h) hl
    unfold sp_Node_pausesOf
    rw [hp]
    simp only
    rw [s5]
    simp only
    rw [ca_eq (E := eset E a (.inr (2, [.int kd, .int v, va_rf c, .int (lW l 0), .int 0, .null]))) rfl (lch_es l c hne h) hl]
    simp only
    rw [s6]
theorem ch_eq {σ : ck_S} (hE : σ.2.2.2.1 = E) {kd v w o : Int32} {c nx c2 : Option Nat} (h : E a = some (nC kd v c w o nx)) : sp_Rd_chain (some a) c2 σ = some (some a, (σ.1, σ.2.1, σ.2.2.1, eset E a (nC kd v c w o c2), σ.2.2.2.2)) := by
  unfold sp_Rd_chain
  simp only
  rw [hE]
  have : ep E a 2 5 (va_rf c2) = some (eset E a (nC kd v c w o c2)) := by
    rw [ep_eq h (by simp)]
    rfl
  rw [this]
end D1
