section GX2
variable {l : Launch} {F : gx_F} {d : Nat} {M : gx_M} {pc : Nat} {L : List (Option Value)} {st : List Value} {h : gx_H} {P : gx_Z → Prop}
theorem gx_lift2 {ct cf : Prop} {pt pf : Nat} {st' : List Value} (hor : ct ∨ cf) (hex : ¬ (ct ∧ cf))
    (hw : ∀ (p : Program) (e : Env) (R : Room) (s : State) (m : MethodId) (args : Array Value) (below : List Frame) (meth : Method) (c : Code) (H : Heap) (locs : List Loc) (cells slots : Nat) (Q : State → Prop) (ls : Array Slot),
      gx_In F M p s m args meth c → (ct → W p l e R s m args below meth c H locs cells slots Q (F0 m pt ls st')) → (cf → W p l e R s m args below meth c H locs cells slots Q (F0 m pf ls st')) → W p l e R s m args below meth c H locs cells slots Q (F0 m pc ls st))
    (kt : ct → gx_Go l F d M pt L st' h P) (kf : cf → gx_Go l F d M pf L st' h P) : gx_Go l F d M pc L st h P := by
  rcases hor with hc | hc
  · obtain ⟨r, ⟨h1, h2, h0, hr⟩, hp⟩ := kt hc
    refine ⟨r, ⟨h1, h2, h0, ?_⟩, hp⟩
    intro p e R s m args below meth c H locs cells slots cE sE Q ls hI hR hL hlo hd1 hd2 e1 e2 e3 e4 hret
    exact hw p e R s m args below meth c H locs cells slots Q ls hI (fun _ => hr p e R s m args below meth c H locs cells slots cE sE Q ls hI hR hL hlo hd1 hd2 e1 e2 e3 e4 hret) (fun h3 => absurd ⟨hc, h3⟩ hex)
  · obtain ⟨r, ⟨h1, h2, h0, hr⟩, hp⟩ := kf hc
    refine ⟨r, ⟨h1, h2, h0, ?_⟩, hp⟩
    intro p e R s m args below meth c H locs cells slots cE sE Q ls hI hR hL hlo hd1 hd2 e1 e2 e3 e4 hret
    exact hw p e R s m args below meth c H locs cells slots Q ls hI (fun h3 => absurd ⟨h3, hc⟩ hex) (fun _ => hr p e R s m args below meth c H locs cells slots cE sE Q ls hI hR hL hlo hd1 hd2 e1 e2 e3 e4 hret)
def gx_cd0 (c : Jvm.ClassFile.Cond) (x : Int32) : Prop × Prop := match c with
  | .eq => (x = 0, ¬ x = 0)
  | .ne => (¬ x = 0, x = 0)
  | .lt => (x < 0, ¬ x < 0)
  | .ge => (0 ≤ x, ¬ 0 ≤ x)
  | .gt => (0 < x, ¬ 0 < x)
  | .le => (x ≤ 0, ¬ x ≤ 0)
def gx_cd2 (c : Jvm.ClassFile.Cond) (x y : Int32) : Prop × Prop := match c with
  | .eq => (x = y, ¬ x = y)
  | .ne => (¬ x = y, x = y)
  | .lt => (x < y, ¬ x < y)
  | .ge => (y ≤ x, ¬ y ≤ x)
  | .gt => (y < x, ¬ y < x)
  | .le => (x ≤ y, ¬ x ≤ y)
/-- if<cond>: the two roads -/
theorem gx_if {i : gx_I} {c : Jvm.ClassFile.Cond} {off : Int} {x : Int32} {ct cf : Prop} (hM : gx_ok M) (ha : gx_at M.2 pc = some i) (hi : i.1 = .ifCond c off) (hc : gx_cd0 c x = (ct, cf)) (kt : ct → gx_Go l F d M i.2.2.2.2.2.1 L st h P) (kf : cf → gx_Go l F d M i.2.2.2.2.1 L st h P) : gx_Go l F d M pc L (.int x :: st) h P := by
  have hk := gx_jok_at hM ha
  obtain ⟨ins, len, c32, c64, nxt, tgt, aux, sgn⟩ := i
  dsimp only at hi kt kf
  subst hi
  obtain ⟨hdg, hn⟩ := gx_dec hM ha rfl
  dsimp only [gx_len] at hdg hn
  subst hn
  have ht : (pc : Int) + off = (tgt : Int) := of_decide_eq_true hk
  cases c <;> cases hc
  · exact gx_lift2 (Classical.em _) (fun q => q.2 q.1) (fun p e R s m args below meth c H locs cells slots Q ls hI k1 k2 => lv_if_eq hI.1 hI.2.1 hdg ht k1 k2) kt kf
  · exact gx_lift2 (Classical.em _).symm (fun q => q.1 q.2) (fun p e R s m args below meth c H locs cells slots Q ls hI k1 k2 => lv_if_ne hI.1 hI.2.1 hdg ht k1 k2) kt kf
  · exact gx_lift2 (Classical.em _) (fun q => q.2 q.1) (fun p e R s m args below meth c H locs cells slots Q ls hI k1 k2 => lv_if_lt hI.1 hI.2.1 hdg ht k1 k2) kt kf
  · exact gx_lift2 (Classical.em _) (fun q => q.2 q.1) (fun p e R s m args below meth c H locs cells slots Q ls hI k1 k2 => lv_if_ge hI.1 hI.2.1 hdg ht k1 k2) kt kf
  · exact gx_lift2 (Classical.em _) (fun q => q.2 q.1) (fun p e R s m args below meth c H locs cells slots Q ls hI k1 k2 => lv_if_gt hI.1 hI.2.1 hdg ht k1 k2) kt kf
  · exact gx_lift2 (Classical.em _) (fun q => q.2 q.1) (fun p e R s m args below meth c H locs cells slots Q ls hI k1 k2 => lv_if_le hI.1 hI.2.1 hdg ht k1 k2) kt kf
theorem gx_ic {i : gx_I} {c : Jvm.ClassFile.Cond} {off : Int} {x y : Int32} {ct cf : Prop} (hM : gx_ok M) (ha : gx_at M.2 pc = some i) (hi : i.1 = .if_icmp c off) (hc : gx_cd2 c x y = (ct, cf)) (kt : ct → gx_Go l F d M i.2.2.2.2.2.1 L st h P) (kf : cf → gx_Go l F d M i.2.2.2.2.1 L st h P) : gx_Go l F d M pc L (.int y :: .int x :: st) h P := by
  have hk := gx_jok_at hM ha
  obtain ⟨ins, len, c32, c64, nxt, tgt, aux, sgn⟩ := i
  dsimp only at hi kt kf
  subst hi
  obtain ⟨hdg, hn⟩ := gx_dec hM ha rfl
  dsimp only [gx_len] at hdg hn
  subst hn
  have ht : (pc : Int) + off = (tgt : Int) := of_decide_eq_true hk
  cases c <;> cases hc
  · exact gx_lift2 (Classical.em _) (fun q => q.2 q.1) (fun p e R s m args below meth c H locs cells slots Q ls hI k1 k2 => lv_icmp_eq hI.1 hI.2.1 hdg ht k1 k2) kt kf
  · exact gx_lift2 (Classical.em _).symm (fun q => q.1 q.2) (fun p e R s m args below meth c H locs cells slots Q ls hI k1 k2 => lv_icmp_ne hI.1 hI.2.1 hdg ht k1 k2) kt kf
  · exact gx_lift2 (Classical.em _) (fun q => q.2 q.1) (fun p e R s m args below meth c H locs cells slots Q ls hI k1 k2 => lv_icmp_lt hI.1 hI.2.1 hdg ht k1 k2) kt kf
  · exact gx_lift2 (Classical.em _) (fun q => q.2 q.1) (fun p e R s m args below meth c H locs cells slots Q ls hI k1 k2 => lv_icmp_ge hI.1 hI.2.1 hdg ht k1 k2) kt kf
  · exact gx_lift2 (Classical.em _) (fun q => q.2 q.1) (fun p e R s m args below meth c H locs cells slots Q ls hI k1 k2 => lv_icmp_gt hI.1 hI.2.1 hdg ht k1 k2) kt kf
  · exact gx_lift2 (Classical.em _) (fun q => q.2 q.1) (fun p e R s m args below meth c H locs cells slots Q ls hI k1 k2 => lv_icmp_le hI.1 hI.2.1 hdg ht k1 k2) kt kf
/-- jumps that are sure: goto, ifnull and ifnonnull of a known reference -/
def gx_jp (ins : Instr) (st : List Value) : Option (Bool × List Value) := match ins with
  | .goto _ => some (true, st)
  | .ifnull _ => match st with
    | .null :: st => some (true, st)
    | .ref _ :: st => some (false, st)
    | _ => none
  | .ifnonnull _ => match st with
    | .null :: st => some (false, st)
    | .ref _ :: st => some (true, st)
    | _ => none
  | _ => none
def gx_jt (b : Bool) (i : gx_I) : Nat := match b with
  | true => i.2.2.2.2.2.1
  | false => i.2.2.2.2.1
theorem gx_j {i : gx_I} {b : Bool} {st' : List Value} (hM : gx_ok M) (ha : gx_at M.2 pc = some i) (hx : gx_jp i.1 st = some (b, st')) (k : gx_Go l F d M (gx_jt b i) L st' h P) : gx_Go l F d M pc L st h P := by
  refine gx_lift (pc' := gx_jt b i) (L' := L) (st' := st') ?_ k
  intro p e R s m args below meth c H locs cells slots Q ls hI hL kk
  have hk := gx_jok_at hM ha
  obtain ⟨hx1, hb, -⟩ := hI
  obtain ⟨ins, len, c32, c64, nxt, tgt, aux, sgn⟩ := i
  unfold gx_jp at hx
  dsimp only at hx
  split at hx
  · next off =>
    obtain ⟨hdg, hn⟩ := gx_dec hM ha rfl
    cases hx
    exact lv_goto hx1 hb hdg (of_decide_eq_true hk) (kk ls hL)
  · next off =>
    obtain ⟨hdg, hn⟩ := gx_dec hM ha rfl
    dsimp only [gx_len] at hdg hn
    subst hn
    split at hx
    · cases hx
      exact lv_ifnullN hx1 hb hdg (of_decide_eq_true hk) (kk ls hL)
    · cases hx
      exact lv_ifnull hx1 hb hdg (kk ls hL)
    · cases hx
  · next off =>
    obtain ⟨hdg, hn⟩ := gx_dec hM ha rfl
    dsimp only [gx_len] at hdg hn
    subst hn
    split at hx
    · cases hx
      exact lv_ifnonnullN hx1 hb hdg (kk ls hL)
    · cases hx
      exact lv_ifnonnull hx1 hb hdg (of_decide_eq_true hk) (kk ls hL)
    · cases hx
  · cases hx
/-- two references compared: both are cells -/
theorem gx_ac {i : gx_I} {c : Jvm.ClassFile.ACond} {off : Int} {x y : Nat} (hM : gx_ok M) (ha : gx_at M.2 pc = some i) (hi : i.1 = .if_acmp c off) (kt : x = y → gx_Go l F d M (gx_jt (decide (c = .eq)) i) L st h P) (kf : ¬ x = y → gx_Go l F d M (gx_jt (decide (c = .ne)) i) L st h P) : gx_Go l F d M pc L (.ref y :: .ref x :: st) h P := by
  have hk := gx_jok_at hM ha
  obtain ⟨ins, len, c32, c64, nxt, tgt, aux, sgn⟩ := i
  dsimp only at hi
  subst hi
  obtain ⟨hdg, hn⟩ := gx_dec hM ha rfl
  dsimp only [gx_len] at hdg hn
  subst hn
  have ht : (pc : Int) + off = (tgt : Int) := of_decide_eq_true hk
  cases c
  · exact gx_lift2 (ct := x = y) (cf := ¬ x = y) (Classical.em _) (fun q => q.2 q.1) (fun p e R s m args below meth c H locs cells slots Q ls hI k1 k2 => lv_acmp_eq (rx := some x) (ry := some y) hI.1 hI.2.1 hdg ht (fun q => k1 (Option.some.inj q)) (fun q => k2 (fun z => q (by rw [z])))) kt kf
  · exact gx_lift2 (ct := ¬ x = y) (cf := x = y) (Classical.em _).symm (fun q => q.1 q.2) (fun p e R s m args below meth c H locs cells slots Q ls hI k1 k2 => lv_acmp_ne (rx := some x) (ry := some y) hI.1 hI.2.1 hdg ht (fun q => k1 (fun z => q (by rw [z]))) (fun q => k2 (Option.some.inj q))) kf kt
/-- the method's end -/
theorem gx_ret {i : gx_I} {v : Option Value} (hM : gx_ok M) (ha : gx_at M.2 pc = some i) (hi : i.1 = gx_rins M.1.2.2.2.1) (hn : gx_nar M.1.2.2.2.1 v) (hs : st = v.toList) (hp : P (.inl v, h)) : gx_Go l F d M pc L st h P := by
  refine ⟨(.inl v, h), ⟨Nat.le_refl _, Nat.le_refl _, fun w hw => by cases hw; exact hn, ?_⟩, hp⟩
  intro p e R s m args below meth c H locs cells slots cE sE Q ls hI hR hL hlo hd1 hd2 e1 e2 e3 e4 hret
  have h1 : cells = cE := Nat.add_right_cancel e1
  have h2 : slots = sE := Nat.add_right_cancel e2
  subst h1
  subst h2
  refine hret pc st ls H locs ⟨?_, hn, hs⟩ hR hlo hL.1
  obtain ⟨hd, hlen, h3⟩ := gx_ok_at hM ha
  rw [hi] at hd h3
  have h4 : gx_sw (gx_rins M.1.2.2.2.1) = false ∧ gx_len (gx_rins M.1.2.2.2.1) = 1 := by
    cases hM2 : M.1.2.2.2.1 with
    | none => exact ⟨rfl, rfl⟩
    | some t => cases t <;> exact ⟨rfl, rfl⟩
  rcases h3 with h3 | h3
  · rw [h4.1] at h3; cases h3
  · rw [h3, h4.2] at hd; exact hd
/-- the run is followed to a place -/
theorem gx_stop (hp : P (.inr pc, h)) : gx_Go l F d M pc L [] h P := by
  refine ⟨(.inr pc, h), ⟨Nat.le_refl _, Nat.le_refl _, (fun w hw => by cases hw), ?_⟩, hp⟩
  intro p e R s m args below meth c H locs cells slots cE sE Q ls hI hR hL hlo hd1 hd2 e1 e2 e3 e4 hret
  have h1 : cells = cE := Nat.add_right_cancel e1
  have h2 : slots = sE := Nat.add_right_cancel e2
  subst h1
  subst h2
  exact hret pc [] ls H locs ⟨rfl, rfl⟩ hR hlo hL.1
/-- a step that reads the heap -/
theorem gx_liftR {pc' : Nat} {st' : List Value}
    (hw : ∀ (p : Program) (e : Env) (R : Room) (s : State) (m : MethodId) (args : Array Value) (below : List Frame) (meth : Method) (c : Code) (H : Heap) (locs : List Loc) (cells slots : Nat) (Q : State → Prop) (ls : Array Slot),
      gx_In F M p s m args meth c → gx_R F h H → W p l e R s m args below meth c H locs cells slots Q (F0 m pc' ls st') → W p l e R s m args below meth c H locs cells slots Q (F0 m pc ls st))
    (k : gx_Go l F d M pc' L st' h P) : gx_Go l F d M pc L st h P := by
  obtain ⟨r, ⟨h1, h2, h0, hr⟩, hp⟩ := k
  refine ⟨r, ⟨h1, h2, h0, ?_⟩, hp⟩
  intro p e R s m args below meth c H locs cells slots cE sE Q ls hI hR hL hlo hd1 hd2 e1 e2 e3 e4 hret
  exact hw p e R s m args below meth c H locs cells slots Q ls hI hR (hr p e R s m args below meth c H locs cells slots cE sE Q ls hI hR hL hlo hd1 hd2 e1 e2 e3 e4 hret)
/-- a step that writes a cell -/
theorem gx_liftW {pc' a : Nat} {st' : List Value} {e0 e1 : gx_C} (hc : h.2.2 a = some e0)
    (hw : ∀ (p : Program) (e : Env) (R : Room) (s : State) (m : MethodId) (args : Array Value) (below : List Frame) (meth : Method) (c : Code) (H : Heap) (locs : List Loc) (cells slots : Nat) (Q : State → Prop) (ls : Array Slot),
      gx_In F M p s m args meth c → gx_R F h H → (∀ (H1 : Heap) (j : Nat), H1.size = H.size → (∀ q : Nat, q ≠ a → H1[q]? = H[q]?) → va_at F.1 gx_cl (a, gx_e F e1) H1 → W p l e R s m args below meth c H1 (locs ++ [⟨a, j⟩]) cells slots Q (F0 m pc' ls st')) → W p l e R s m args below meth c H locs cells slots Q (F0 m pc ls st))
    (k : gx_Go l F d M pc' L st' (gx_set h a e1) P) : gx_Go l F d M pc L st h P := by
  obtain ⟨r, ⟨h1, h2, h0, hr⟩, hp⟩ := k
  refine ⟨r, ⟨h1, h2, h0, ?_⟩, hp⟩
  intro p e R s m args below meth c H locs cells slots cE sE Q ls hI hR hL hlo hd1 hd2 q1 q2 q3 q4 hret
  refine hw p e R s m args below meth c H locs cells slots Q ls hI hR fun H1 j z1 o1 he => ?_
  refine hr p e R s m args below meth c H1 _ cells slots cE sE Q ls hI (hR.put hc z1 o1 he) hL (fun q hq => ?_) hd1 hd2 q1 q2 q3 q4 hret
  rcases List.mem_append.mp hq with h3 | h3
  · exact hlo q h3
  · rw [List.mem_singleton.mp h3]
    exact (hR.2.2.2.2 a e0 hc).1
/-- a step that makes a cell -/
theorem gx_liftN {pc' n : Nat} {st' : List Value} {e1 : gx_C}
    (hw : ∀ (p : Program) (e : Env) (R : Room) (s : State) (m : MethodId) (args : Array Value) (below : List Frame) (meth : Method) (c : Code) (H : Heap) (locs : List Loc) (cells slots : Nat) (Q : State → Prop) (ls : Array Slot),
      gx_In F M p s m args meth c → gx_R F h H → cells + 1 ≤ R.cells → slots + n ≤ R.slots → (∀ H1 : Heap, H1.size = H.size + 1 → (∀ q : Nat, q < H.size → H1[q]? = H[q]?) → va_at F.1 gx_cl (H.size, gx_e F e1) H1 → W p l e R s m args below meth c H1 locs (cells + 1) (slots + n) Q (F0 m pc' ls (.ref H.size :: st'))) → W p l e R s m args below meth c H locs cells slots Q (F0 m pc ls st))
    (k : gx_Go l F d M pc' L (.ref h.1 :: st') (gx_push h n e1) P) : gx_Go l F d M pc L st h P := by
  obtain ⟨r, ⟨h1, h2, h0, hr⟩, hp⟩ := k
  have h1' : h.1 + 1 ≤ r.2.1 := h1
  have h2' : h.2.1 + n ≤ r.2.2.1 := h2
  refine ⟨r, ⟨by omega, by omega, h0, ?_⟩, hp⟩
  intro p e R s m args below meth c H locs cells slots cE sE Q ls hI hR hL hlo hd1 hd2 q1 q2 q3 q4 hret
  refine hw p e R s m args below meth c H locs cells slots Q ls hI hR (by omega) (by omega) fun H1 z1 o1 he => ?_
  have hz : H.size = h.1 := hR.1
  rw [hz]
  refine hr p e R s m args below meth c H1 locs (cells + 1) (slots + n) cE sE Q ls hI (hR.add z1 o1 he) hL hlo hd1 hd2 ?_ ?_ q3 q4 hret
  · show cells + 1 + r.2.1 = cE + (h.1 + 1)
    omega
  · show slots + n + r.2.2.1 = sE + (h.2.1 + n)
    omega
theorem gx_fw_of {idx ci k nest tc : Nat} (hk : gx_fw M idx [ci, k, nest, tc]) : ∃ q, gx_cl[ci]? = some q ∧ k < q.2.2 ∧ (∃ ty, parseFieldDescriptor (q.2.1 k).2.2.1 = some ty ∧ gx_tc ty = tc) ∧
    ((nest = 0 ∧ Cond.fieldLink M.1.1.cls idx (q.2.1 k).1 (q.2.1 k).2.1 (q.2.1 k).2.2.1 ∈ gx_Ts) ∨ (nest = 1 ∧ Cond.fieldLinkNest M.1.1.cls idx (q.2.1 k).1 (q.2.1 k).2.1 (q.2.1 k).2.2.1 gx_host ∈ gx_NW)) := by
  obtain ⟨q, ty, h1, h2, h3, h4, h5⟩ := hk
  exact ⟨q, h1, h2, ⟨ty, h3, h4⟩, h5⟩
/-- a field is read -/
theorem gx_gf {i : gx_I} {idx ci k nest tc a : Nat} {fs : List Value} {v : Value} (hM : gx_ok M) (ha : gx_at M.2 pc = some i) (hi : i.1 = .getfield idx) (hx : i.2.2.2.2.2.2.1 = [ci, k, nest, tc]) (hc : h.2.2 a = some (.inr (ci, fs))) (hv : fs[k]? = some v) (kk : gx_Go l F d M i.2.2.2.2.1 L (v :: st) h P) : gx_Go l F d M pc L (.ref a :: st) h P := by
  have hk := gx_oki_at hM ha
  obtain ⟨ins, len, c32, c64, nxt, tgt, aux, sgn⟩ := i
  dsimp only at hi hx kk
  subst hi
  subst hx
  obtain ⟨hdg, hn⟩ := gx_dec hM ha rfl
  dsimp only [gx_len] at hdg hn
  subst hn
  obtain ⟨q, hq, hlt, -, hw⟩ := gx_fw_of (M := M) hk
  refine gx_liftR ?_ kk
  intro p e R s m args below meth c H locs cells slots Q ls hI hR k1
  obtain ⟨hx1, hb, hml, hr, hlk, hown, hts, hE, hin⟩ := hI
  have hP : va_P F.1 gx_cl [(a, .inr (ci, fs))] H := fun j x hj => by
    have hj0 : j = 0 := by
      have := (List.getElem?_eq_some_iff.mp hj).1
      simp at this
      exact this
    subst hj0
    cases hj
    exact (hR.2.2.2.2 a _ hc).2
  rcases hw with ⟨-, hw⟩ | ⟨-, hw⟩
  · exact va_get (C := q.1) (T := q.2.1) (N := q.2.2) hx1 hb hts (gx_cl_ws hq) hown hE.1 hP 0 rfl hq k hlt (hts _ (hw)) (fun _ h9 => h9) hv hdg k1
  · exact va_getN (C := q.1) (T := q.2.1) (N := q.2.2) hx1 hb hts (gx_cl_ws hq) hown hE.1 hP 0 rfl hq k hlt (va_Nw.use rfl (hE.2.1 _ (hw))) (fun _ h9 => h9) hv hdg k1
/-- which values a field of a kind takes -/
def gx_fit (tc : Nat) (v : Value) : Prop := match tc, v with
  | 0, .int _ => True
  | 1, .int x => x = 0 ∨ x = 1
  | 2, .ref _ => True
  | 2, .null => True
  | 3, .long _ => True
  | _, _ => False
theorem gx_fit_of {ty : FieldType} {tc : Nat} {v : Value} (ht : gx_tc ty = tc) (hv : gx_fit tc v) : narrow ty v = v ∧ fits ty v = true := by
  subst ht
  cases ty <;> cases v <;> first
    | exact ⟨rfl, rfl⟩
    | exact False.elim hv
    | (rcases hv with rfl | rfl <;> exact ⟨rfl, rfl⟩)
/-- a field is written -/
theorem gx_pf {i : gx_I} {idx ci k nest tc a : Nat} {fs : List Value} {v : Value} (hM : gx_ok M) (ha : gx_at M.2 pc = some i) (hi : i.1 = .putfield idx) (hx : i.2.2.2.2.2.2.1 = [ci, k, nest, tc]) (hc : h.2.2 a = some (.inr (ci, fs))) (hl : k < fs.length) (hf : gx_fit tc v) (kk : gx_Go l F d M i.2.2.2.2.1 L st (gx_set h a (.inr (ci, fs.set k v))) P) : gx_Go l F d M pc L (v :: .ref a :: st) h P := by
  have hk := gx_oki_at hM ha
  obtain ⟨ins, len, c32, c64, nxt, tgt, aux, sgn⟩ := i
  dsimp only at hi hx kk
  subst hi
  subst hx
  obtain ⟨hdg, hn⟩ := gx_dec hM ha rfl
  dsimp only [gx_len] at hdg hn
  subst hn
  have hk2 : gx_fw M idx [ci, k, nest, tc] ∧ gx_fin M [ci, k, nest, tc] := hk
  obtain ⟨q, hq, hlt, ⟨ty, hty, htc⟩, hw⟩ := gx_fw_of (M := M) hk2.1
  obtain ⟨hnar, hfit⟩ := gx_fit_of htc hf
  have hfin : (q.2.1 k).2.2.2 = false ∨ (nest = 0 ∧ M.1.1.name = "<init>" ∧ (q.2.1 k).1 = M.1.1.cls ∧ (q.2.1 k).2.2.2 = true) := by
    obtain ⟨q', hq', h1⟩ := hk2.2
    have hqq : q' = q := Option.some.inj (hq'.symm.trans hq)
    subst hqq
    exact h1
  refine gx_liftW (e1 := .inr (ci, fs.set k v)) hc ?_ kk
  intro p e R s m args below meth c H locs cells slots Q ls hI hR k1
  obtain ⟨hx1, hb, hml, hr, hlk, hown, hts, hE, hin⟩ := hI
  have hap := va_apart (own := M.1.1.cls) hts (gx_cl_ws hq) (gx_tyf q) (gx_cl_ty hq) (gx_cl_nm hq) hE.1 hq
  obtain ⟨r, h1, cell, q1, q2, q3, q4⟩ := (hR.2.2.2.2 a _ hc).2
  have hr9 : r = q := Option.some.inj (h1.symm.trans hq)
  subst hr9
  obtain ⟨hS, hfc, kC, hkC, hkind⟩ := hE.1.1 ci _ hq
  obtain ⟨cf, kf, fi, f, hi9, hsl⟩ := hS k hlt
  have hst9 := (u_facts hfc hkC (u_lays hts (gx_cl_ws hq) hlt) hi9).1
  have fin : ∀ H' : Heap, H'[a]? = some (cell.setSlot f.slot v) → H'.size = H.size → (∀ q, q ≠ a → H'[q]? = H[q]?) → W p l e R s m args below meth c H' (locs ++ [⟨a, f.slot⟩]) cells slots Q (F0 m (pc + 3) ls st) := by
    intro H' w1 w2 w3
    rw [hsl] at w1 ⊢
    exact k1 H' _ w2 w3 ⟨_, hq, t_OB.to (V := updV (vp_V fs) k v) ⟨_, w1, q2, q3, t_set q4 hap hlt v⟩ (fun j _ => vp_updV_set hl v j)⟩
  rcases hfin with hfin | ⟨hn0, hin1, hdecl, hfin⟩
  · have hlay := hts _ (gx_cl_ws hq _ (u_in_lay hlt))
    unfold u_lay at hlay
    rw [if_neg (by rw [hfin]; decide)] at hlay
    have h6 := u_store hfc hkC hkind hlay hi9 hty hnar hfit
    rcases hw with ⟨-, hw⟩ | ⟨-, hw⟩
    · exact W.putK hx1 hb (f := f) ⟨hown, hts _ (hw), ⟨_, _, _, hi9⟩, hst9⟩ (by rw [q2]; exact h6) q1 q3 (by rw [hsl]; exact k2_hasslot (q4 k hlt)) rfl rfl hdg fin
    · exact va_WputK hx1 hb (f := f) hown (va_Nw.use rfl (hE.2.1 _ (hw))) hi9 hst9 (by rw [q2]; exact h6) q1 q3 (by rw [hsl]; exact k2_hasslot (q4 k hlt)) rfl rfl hdg fin
  · rcases hw with ⟨-, hw⟩ | ⟨hne, hw⟩
    · have hlay := hts _ (gx_cl_ws hq _ (u_in_lay hlt))
      unfold u_lay at hlay
      rw [if_pos hfin] at hlay
      have h6 := u_fits hfc hkC hkind (Or.inr hlay) hi9 hty hnar hfit
      have hcf : m.cls = cf := by
        obtain ⟨_, _, c', _, _, _, -, -, hf', -, -, -, hown2, -⟩ := Cond.laysFinal_spec hlay
        have e1 : c' = cf := by have := hi9.symm.trans hf'; simp at this; exact this.1.symm
        rw [hdecl] at hown2
        rw [← e1]; exact Option.some.inj (hown.symm.trans hown2)
      exact W.putFinK hx1 hb hown (hts _ (hw)) hi9 hst9 hcf (hin hin1) (by rw [q2]; exact h6) q1 q3 (by rw [hsl]; exact k2_hasslot (q4 k hlt)) rfl rfl hdg fin
    · exact absurd (hn0.symm.trans hne) (by decide)
end GX2
