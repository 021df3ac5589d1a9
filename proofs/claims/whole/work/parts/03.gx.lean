def gx_In (F : gx_F) (M : gx_M) (p : Program) (s : State) (m : MethodId) (args : Array Value) (meth : Method) (c : Code) : Prop :=
  p.tables.exec = Jvm.exec ∧ c.code = M.1.2.1 ∧ c.maxLocals = M.1.2.2.1 ∧ meth.sig.returnType = M.1.2.2.2.1 ∧ meth.locks = false ∧ s.vm.findClass M.1.1.cls = some m.cls ∧ (∀ w ∈ gx_Ts, w.before args s = true) ∧ gx_E F s ∧ (M.1.1.name = "<init>" → meth.name = "<init>")
/-- the instruction that ends a method with an answer of this type -/
def gx_rins : Option FieldType → Instr
  | none => .return_
  | some .long => .lreturn
  | some (.object _) => .areturn
  | some (.array _) => .areturn
  | some _ => .ireturn
/-- the answer is one of the type -/
def gx_nar (ret : Option FieldType) (v : Option Value) : Prop := match ret, v with
  | none, none => True
  | some .long, some (.long _) => True
  | some (.object _), some .null => True
  | some (.object _), some (.ref _) => True
  | some (.array _), some .null => True
  | some (.array _), some (.ref _) => True
  | some .int, some (.int _) => True
  | some .boolean, some (.int x) => x = 0 ∨ x = 1
  | _, _ => False
/-- an end: by an answer, or at a place -/
def gx_X (M : gx_M) (r : Option Value ⊕ Nat) (pc : Nat) (st : List Value) : Prop := match r with
  | .inl v => decode M.1.2.1 pc = .ok (gx_rins M.1.2.2.2.1, 1) ∧ gx_nar M.1.2.2.2.1 v ∧ st = v.toList
  | .inr k => pc = k ∧ st = []
abbrev gx_Z : Type := (Option Value ⊕ Nat) × gx_H
def gx_Runs (l : Launch) (F : gx_F) (d : Nat) (M : gx_M) (pc : Nat) (L : List (Option Value)) (st : List Value) (h : gx_H) (r : gx_Z) : Prop :=
  h.1 ≤ r.2.1 ∧ h.2.1 ≤ r.2.2.1 ∧ (∀ v, r.1 = .inl v → gx_nar M.1.2.2.2.1 v) ∧
  ∀ (p : Program) (e : Env) (R : Room) (s : State) (m : MethodId) (args : Array Value) (below : List Frame) (meth : Method) (c : Code) (H : Heap) (locs : List Loc) (cells slots cE sE : Nat) (Q : State → Prop) (ls : Array Slot),
    gx_In F M p s m args meth c → gx_R F h H → gx_L ls M.1.2.2.1 L → (∀ q ∈ locs, F.2.2.1 ≤ q.base) → d ≤ R.frames → 40 * d ≤ R.locals →
    cells + r.2.1 = cE + h.1 → slots + r.2.2.1 = sE + h.2.1 → cE ≤ R.cells → sE ≤ R.slots →
    (∀ (pc' : Nat) (st' : List Value) (ls' : Array Slot) (H' : Heap) (locs' : List Loc), gx_X M r.1 pc' st' → gx_R F r.2 H' → (∀ q ∈ locs', F.2.2.1 ≤ q.base) → ls'.size = M.1.2.2.1 → W p l e R s m args below meth c H' locs' cE sE Q (F0 m pc' ls' st')) →
    W p l e R s m args below meth c H locs cells slots Q (F0 m pc ls st)
def gx_Go (l : Launch) (F : gx_F) (d : Nat) (M : gx_M) (pc : Nat) (L : List (Option Value)) (st : List Value) (h : gx_H) (P : gx_Z → Prop) : Prop := ∃ r, gx_Runs l F d M pc L st h r ∧ P r
section GX
variable {l : Launch} {F : gx_F} {d : Nat} {M : gx_M} {pc : Nat} {L : List (Option Value)} {st : List Value} {h : gx_H} {P : gx_Z → Prop}
/-- a step that leaves the heap: from a row of the kit -/
theorem gx_lift {pc' : Nat} {L' : List (Option Value)} {st' : List Value}
    (hw : ∀ (p : Program) (e : Env) (R : Room) (s : State) (m : MethodId) (args : Array Value) (below : List Frame) (meth : Method) (c : Code) (H : Heap) (locs : List Loc) (cells slots : Nat) (Q : State → Prop) (ls : Array Slot),
      gx_In F M p s m args meth c → gx_L ls M.1.2.2.1 L → (∀ ls' : Array Slot, gx_L ls' M.1.2.2.1 L' → W p l e R s m args below meth c H locs cells slots Q (F0 m pc' ls' st')) → W p l e R s m args below meth c H locs cells slots Q (F0 m pc ls st))
    (k : gx_Go l F d M pc' L' st' h P) : gx_Go l F d M pc L st h P := by
  obtain ⟨r, ⟨h1, h2, h0, hr⟩, hp⟩ := k
  refine ⟨r, ⟨h1, h2, h0, ?_⟩, hp⟩
  intro p e R s m args below meth c H locs cells slots cE sE Q ls hI hR hL hlo hd1 hd2 e1 e2 e3 e4 hret
  exact hw p e R s m args below meth c H locs cells slots Q ls hI hL fun ls' hL' => hr p e R s m args below meth c H locs cells slots cE sE Q ls' hI hR hL' hlo hd1 hd2 e1 e2 e3 e4 hret
/-- pure instructions: what they do to locals and stack -/
abbrev gx_LS : Type := List (Option Value) × List Value
def gx_pI (ok : Bool) (c : Int32) (L : List (Option Value)) (st : List Value) : Option gx_LS := match ok with
  | true => some (L, .int c :: st)
  | false => none
def gx_pL (ok : Bool) (c : Int64) (L : List (Option Value)) (st : List Value) : Option gx_LS := match ok with
  | true => some (L, .long c :: st)
  | false => none
def gx_ldI (k : Nat) (L : List (Option Value)) (st : List Value) : Option gx_LS := match L[k]? with
  | some (some (.int x)) => some (L, .int x :: st)
  | _ => none
def gx_ldL (k : Nat) (L : List (Option Value)) (st : List Value) : Option gx_LS := match L[k]? with
  | some (some (.long x)) => some (L, .long x :: st)
  | _ => none
def gx_ldA (k : Nat) (L : List (Option Value)) (st : List Value) : Option gx_LS := match L[k]? with
  | some (some (.ref x)) => some (L, .ref x :: st)
  | some (some .null) => some (L, .null :: st)
  | _ => none
def gx_stI (nL k : Nat) (L : List (Option Value)) (st : List Value) : Option gx_LS := match Nat.blt k nL, st with
  | true, .int x :: st => some (gx_st1 L k (.int x), st)
  | _, _ => none
def gx_stA (nL k : Nat) (L : List (Option Value)) (st : List Value) : Option gx_LS := match Nat.blt k nL, st with
  | true, .ref x :: st => some (gx_st1 L k (.ref x), st)
  | true, .null :: st => some (gx_st1 L k .null, st)
  | _, _ => none
def gx_stL (nL k : Nat) (L : List (Option Value)) (st : List Value) : Option gx_LS := match Nat.blt (k + 1) nL, st with
  | true, .long x :: st => some (gx_st2 L k (.long x), st)
  | _, _ => none
def gx_inc (ok : Bool) (nL k : Nat) (c : Int32) (L : List (Option Value)) (st : List Value) : Option gx_LS := match ok, Nat.blt k nL, L[k]? with
  | true, true, some (some (.int x)) => some (gx_st1 L k (.int (x + c)), st)
  | _, _, _ => none
def gx_ii (f : Int32 → Int32 → Int32) (L : List (Option Value)) (st : List Value) : Option gx_LS := match st with
  | .int y :: .int x :: st => some (L, .int (f x y) :: st)
  | _ => none
def gx_i1 (f : Int32 → Int32) (L : List (Option Value)) (st : List Value) : Option gx_LS := match st with
  | .int x :: st => some (L, .int (f x) :: st)
  | _ => none
def gx_ll (f : Int64 → Int64 → Int64) (L : List (Option Value)) (st : List Value) : Option gx_LS := match st with
  | .long y :: .long x :: st => some (L, .long (f x y) :: st)
  | _ => none
def gx_li (f : Int64 → Int32 → Int64) (L : List (Option Value)) (st : List Value) : Option gx_LS := match st with
  | .int y :: .long x :: st => some (L, .long (f x y) :: st)
  | _ => none
def gx_lc (L : List (Option Value)) (st : List Value) : Option gx_LS := match st with
  | .long y :: .long x :: st => some (L, .int (lg_cmp x y) :: st)
  | _ => none
def gx_il (L : List (Option Value)) (st : List Value) : Option gx_LS := match st with
  | .int x :: st => some (L, .long x.toInt64 :: st)
  | _ => none
def gx_l2 (L : List (Option Value)) (st : List Value) : Option gx_LS := match st with
  | .long x :: st => some (L, .int x.toInt32 :: st)
  | _ => none
def gx_dp (L : List (Option Value)) (st : List Value) : Option gx_LS := match st with
  | .int x :: st => some (L, .int x :: .int x :: st)
  | .ref x :: st => some (L, .ref x :: .ref x :: st)
  | .null :: st => some (L, .null :: .null :: st)
  | _ => none
def gx_dp2 (L : List (Option Value)) (st : List Value) : Option gx_LS := match st with
  | .int y :: .int x :: st => some (L, .int y :: .int x :: .int y :: .int x :: st)
  | .int y :: .ref x :: st => some (L, .int y :: .ref x :: .int y :: .ref x :: st)
  | _ => none
def gx_pp (L : List (Option Value)) (st : List Value) : Option gx_LS := match st with
  | .int _ :: st => some (L, st)
  | .ref _ :: st => some (L, st)
  | .null :: st => some (L, st)
  | _ => none
def gx_ex (nL : Nat) (i : gx_I) (L : List (Option Value)) (st : List Value) : Option gx_LS := match i.1 with
  | .iconst k => gx_pI (decide (Int32.ofInt k = i.2.2.1)) i.2.2.1 L st
  | .bipush k => gx_pI (decide ((Int8.ofInt k).toInt32 = i.2.2.1)) i.2.2.1 L st
  | .sipush k => gx_pI (decide ((Int16.ofInt k).toInt32 = i.2.2.1)) i.2.2.1 L st
  | .lconst k => gx_pL (decide (Int64.ofNat (k : Nat) = i.2.2.2.1)) i.2.2.2.1 L st
  | .aconst_null => some (L, .null :: st)
  | .iload_n k => gx_ldI (k : Nat) L st
  | .iload k => gx_ldI k L st
  | .lload_n k => gx_ldL (k : Nat) L st
  | .lload k => gx_ldL k L st
  | .aload_n k => gx_ldA (k : Nat) L st
  | .aload k => gx_ldA k L st
  | .istore_n k => gx_stI nL (k : Nat) L st
  | .istore k => gx_stI nL k L st
  | .astore_n k => gx_stA nL (k : Nat) L st
  | .astore k => gx_stA nL k L st
  | .lstore_n k => gx_stL nL (k : Nat) L st
  | .lstore k => gx_stL nL k L st
  | .iinc k n => gx_inc (decide (Int32.ofInt n = i.2.2.1)) nL k i.2.2.1 L st
  | .iadd => gx_ii (fun x y => x + y) L st
  | .isub => gx_ii (fun x y => x - y) L st
  | .imul => gx_ii (fun x y => x * y) L st
  | .iand => gx_ii (fun x y => x &&& y) L st
  | .ior => gx_ii (fun x y => x ||| y) L st
  | .ixor => gx_ii (fun x y => x ^^^ y) L st
  | .ishl => gx_ii (fun x y => x <<< (y &&& 31)) L st
  | .ishr => gx_ii (fun x y => x >>> (y &&& 31)) L st
  | .iushr => gx_ii (fun x y => (x.toUInt32 >>> (y.toUInt32 &&& Int32.toUInt32 31)).toInt32) L st
  | .ineg => gx_i1 (fun x => -x) L st
  | .i2c => gx_i1 (fun x => (x.toUInt32 % 65536).toInt32) L st
  | .ladd => gx_ll (fun x y => x + y) L st
  | .lsub => gx_ll (fun x y => x - y) L st
  | .lmul => gx_ll (fun x y => x * y) L st
  | .land => gx_ll (fun x y => x &&& y) L st
  | .lor => gx_ll (fun x y => x ||| y) L st
  | .lxor => gx_ll (fun x y => x ^^^ y) L st
  | .lshl => gx_li (fun x y => x <<< (y.toInt64 &&& 63)) L st
  | .lshr => gx_li (fun x y => x >>> (y.toInt64 &&& 63)) L st
  | .lushr => gx_li (fun x y => (x.toUInt64 >>> (y.toInt64.toUInt64 &&& Int64.toUInt64 63)).toInt64) L st
  | .lcmp => gx_lc L st
  | .i2l => gx_il L st
  | .l2i => gx_l2 L st
  | .dup => gx_dp L st
  | .dup2 => gx_dp2 L st
  | .pop => gx_pp L st
  | _ => none
/-- a pure instruction: one row for all -/
theorem gx_p {i : gx_I} {L' : List (Option Value)} {st' : List Value} (hM : gx_ok M) (ha : gx_at M.2 pc = some i) (hx : gx_ex M.1.2.2.1 i L st = some (L', st')) (k : gx_Go l F d M i.2.2.2.2.1 L' st' h P) : gx_Go l F d M pc L st h P := by
  refine gx_lift (pc' := i.2.2.2.2.1) (L' := L') (st' := st') ?_ k
  intro p e R s m args below meth c H locs cells slots Q ls hI hL kk
  obtain ⟨hx1, hb, -, -, -, hown, -⟩ := hI
  obtain ⟨ins, len, c32, c64, nxt, tgt, aux, sgn⟩ := i
  unfold gx_ex at hx
  dsimp only at hx kk
  split at hx
  · obtain ⟨hdg, hn⟩ := gx_dec hM ha rfl
    dsimp only [gx_len] at hdg hn
    subst hn
    unfold gx_pI at hx
    split at hx
    · next hk =>
      cases hx
      exact lv_iconst (v := c32) hx1 hb hdg (of_decide_eq_true hk) (kk ls hL)
    · cases hx
  · obtain ⟨hdg, hn⟩ := gx_dec hM ha rfl
    dsimp only [gx_len] at hdg hn
    subst hn
    unfold gx_pI at hx
    split at hx
    · next hk =>
      cases hx
      exact lv_bipush (v := c32) hx1 hb hdg (of_decide_eq_true hk) (kk ls hL)
    · cases hx
  · obtain ⟨hdg, hn⟩ := gx_dec hM ha rfl
    dsimp only [gx_len] at hdg hn
    subst hn
    unfold gx_pI at hx
    split at hx
    · next hk =>
      cases hx
      exact lv_sipush (v := c32) hx1 hb hdg (of_decide_eq_true hk) (kk ls hL)
    · cases hx
  · obtain ⟨hdg, hn⟩ := gx_dec hM ha rfl
    dsimp only [gx_len] at hdg hn
    subst hn
    unfold gx_pL at hx
    split at hx
    · next hk =>
      cases hx
      exact lv_lconst (v := c64) hx1 hb hdg (of_decide_eq_true hk) (kk ls hL)
    · cases hx
  · obtain ⟨hdg, hn⟩ := gx_dec hM ha rfl
    dsimp only [gx_len] at hdg hn
    subst hn
    cases hx
    exact lv_null hx1 hb hdg (kk ls hL)
  · obtain ⟨hdg, hn⟩ := gx_dec hM ha rfl
    dsimp only [gx_len] at hdg hn
    subst hn
    unfold gx_ldI at hx
    split at hx
    · next x hk =>
      cases hx
      exact lv_iload_n hx1 hb hdg rfl (hL.2.2 _ _ hk) (kk ls hL)
    · cases hx
  · obtain ⟨hdg, hn⟩ := gx_dec hM ha rfl
    dsimp only [gx_len] at hdg hn
    subst hn
    unfold gx_ldI at hx
    split at hx
    · next x hk =>
      cases hx
      exact lv_iload hx1 hb hdg (hL.2.2 _ _ hk) (kk ls hL)
    · cases hx
  · obtain ⟨hdg, hn⟩ := gx_dec hM ha rfl
    dsimp only [gx_len] at hdg hn
    subst hn
    unfold gx_ldL at hx
    split at hx
    · next x hk =>
      cases hx
      exact lv_lload_n hx1 hb hdg rfl (hL.2.2 _ _ hk) (kk ls hL)
    · cases hx
  · obtain ⟨hdg, hn⟩ := gx_dec hM ha rfl
    dsimp only [gx_len] at hdg hn
    subst hn
    unfold gx_ldL at hx
    split at hx
    · next x hk =>
      cases hx
      exact lv_lload hx1 hb hdg (hL.2.2 _ _ hk) (kk ls hL)
    · cases hx
  · obtain ⟨hdg, hn⟩ := gx_dec hM ha rfl
    dsimp only [gx_len] at hdg hn
    subst hn
    unfold gx_ldA at hx
    split at hx
    · next x hk =>
      cases hx
      exact lv_aload_n hx1 hb hdg rfl (hL.2.2 _ _ hk) (kk ls hL)
    · next hk =>
      cases hx
      exact lv_aload_nN hx1 hb hdg rfl (hL.2.2 _ _ hk) (kk ls hL)
    · cases hx
  · obtain ⟨hdg, hn⟩ := gx_dec hM ha rfl
    dsimp only [gx_len] at hdg hn
    subst hn
    unfold gx_ldA at hx
    split at hx
    · next x hk =>
      cases hx
      exact lv_aload hx1 hb hdg (hL.2.2 _ _ hk) (kk ls hL)
    · next hk =>
      cases hx
      exact lv_aloadN hx1 hb hdg (hL.2.2 _ _ hk) (kk ls hL)
    · cases hx
  · obtain ⟨hdg, hn⟩ := gx_dec hM ha rfl
    dsimp only [gx_len] at hdg hn
    subst hn
    unfold gx_stI at hx
    split at hx
    · next x st1 hk =>
      cases hx
      exact lv_istore_n hx1 hb hdg rfl hL.has (Nat.le_of_ble_eq_true hk) rfl (fun ls1 hl1 => kk ls1 (gx_st1_ok hl1))
    · cases hx
  · obtain ⟨hdg, hn⟩ := gx_dec hM ha rfl
    dsimp only [gx_len] at hdg hn
    subst hn
    unfold gx_stI at hx
    split at hx
    · next x st1 hk =>
      cases hx
      exact lv_istore hx1 hb hdg hL.has (Nat.le_of_ble_eq_true hk) rfl (fun ls1 hl1 => kk ls1 (gx_st1_ok hl1))
    · cases hx
  · obtain ⟨hdg, hn⟩ := gx_dec hM ha rfl
    dsimp only [gx_len] at hdg hn
    subst hn
    unfold gx_stA at hx
    split at hx
    · next x st1 hk =>
      cases hx
      exact lv_astore_n hx1 hb hdg rfl hL.has (Nat.le_of_ble_eq_true hk) rfl (fun ls1 hl1 => kk ls1 (gx_st1_ok hl1))
    · next st1 hk =>
      cases hx
      exact lv_astore_nN hx1 hb hdg rfl hL.has (Nat.le_of_ble_eq_true hk) rfl (fun ls1 hl1 => kk ls1 (gx_st1_ok hl1))
    · cases hx
  · obtain ⟨hdg, hn⟩ := gx_dec hM ha rfl
    dsimp only [gx_len] at hdg hn
    subst hn
    unfold gx_stA at hx
    split at hx
    · next x st1 hk =>
      cases hx
      exact lv_astore hx1 hb hdg hL.has (Nat.le_of_ble_eq_true hk) rfl (fun ls1 hl1 => kk ls1 (gx_st1_ok hl1))
    · next st1 hk =>
      cases hx
      exact lv_astoreN hx1 hb hdg hL.has (Nat.le_of_ble_eq_true hk) rfl (fun ls1 hl1 => kk ls1 (gx_st1_ok hl1))
    · cases hx
  · obtain ⟨hdg, hn⟩ := gx_dec hM ha rfl
    dsimp only [gx_len] at hdg hn
    subst hn
    unfold gx_stL at hx
    split at hx
    · next x st1 hk =>
      cases hx
      exact lv_lstore_n hx1 hb hdg rfl hL.has (Nat.le_of_ble_eq_true hk) rfl (fun ls1 hl1 => kk ls1 (gx_st2_ok hl1))
    · cases hx
  · obtain ⟨hdg, hn⟩ := gx_dec hM ha rfl
    dsimp only [gx_len] at hdg hn
    subst hn
    unfold gx_stL at hx
    split at hx
    · next x st1 hk =>
      cases hx
      exact lv_lstore hx1 hb hdg hL.has (Nat.le_of_ble_eq_true hk) rfl (fun ls1 hl1 => kk ls1 (gx_st2_ok hl1))
    · cases hx
  · obtain ⟨hdg, hn⟩ := gx_dec hM ha rfl
    dsimp only [gx_len] at hdg hn
    subst hn
    unfold gx_inc at hx
    split at hx
    · next x h1 h2 h3 =>
      cases hx
      obtain ⟨j, hj⟩ := List.getElem?_of_mem (gx_prs_mem h3)
      exact lv_iinc hx1 hb hdg hL.has hj (by rw [of_decide_eq_true h1]) (Nat.le_of_ble_eq_true h2) rfl (fun ls1 hl1 => kk ls1 (gx_st1_ok hl1))
    · cases hx
  · obtain ⟨hdg, hn⟩ := gx_dec hM ha rfl
    dsimp only [gx_len] at hdg hn
    subst hn
    unfold gx_ii at hx
    split at hx
    · cases hx
      exact lv_iadd hx1 hb hdg (kk ls hL)
    · cases hx
  · obtain ⟨hdg, hn⟩ := gx_dec hM ha rfl
    dsimp only [gx_len] at hdg hn
    subst hn
    unfold gx_ii at hx
    split at hx
    · cases hx
      exact lv_isub hx1 hb hdg (kk ls hL)
    · cases hx
  · obtain ⟨hdg, hn⟩ := gx_dec hM ha rfl
    dsimp only [gx_len] at hdg hn
    subst hn
    unfold gx_ii at hx
    split at hx
    · cases hx
      exact lv_imul hx1 hb hdg (kk ls hL)
    · cases hx
  · obtain ⟨hdg, hn⟩ := gx_dec hM ha rfl
    dsimp only [gx_len] at hdg hn
    subst hn
    unfold gx_ii at hx
    split at hx
    · cases hx
      exact lv_iand hx1 hb hdg (kk ls hL)
    · cases hx
  · obtain ⟨hdg, hn⟩ := gx_dec hM ha rfl
    dsimp only [gx_len] at hdg hn
    subst hn
    unfold gx_ii at hx
    split at hx
    · cases hx
      exact lv_ior hx1 hb hdg (kk ls hL)
    · cases hx
  · obtain ⟨hdg, hn⟩ := gx_dec hM ha rfl
    dsimp only [gx_len] at hdg hn
    subst hn
    unfold gx_ii at hx
    split at hx
    · cases hx
      exact lv_ixor hx1 hb hdg (kk ls hL)
    · cases hx
  · obtain ⟨hdg, hn⟩ := gx_dec hM ha rfl
    dsimp only [gx_len] at hdg hn
    subst hn
    unfold gx_ii at hx
    split at hx
    · cases hx
      exact lv_ishl hx1 hb hdg (kk ls hL)
    · cases hx
  · obtain ⟨hdg, hn⟩ := gx_dec hM ha rfl
    dsimp only [gx_len] at hdg hn
    subst hn
    unfold gx_ii at hx
    split at hx
    · cases hx
      exact lv_ishr hx1 hb hdg (kk ls hL)
    · cases hx
  · obtain ⟨hdg, hn⟩ := gx_dec hM ha rfl
    dsimp only [gx_len] at hdg hn
    subst hn
    unfold gx_ii at hx
    split at hx
    · cases hx
      exact lv_iushr hx1 hb hdg rfl (kk ls hL)
    · cases hx
  · obtain ⟨hdg, hn⟩ := gx_dec hM ha rfl
    dsimp only [gx_len] at hdg hn
    subst hn
    unfold gx_i1 at hx
    split at hx
    · cases hx
      exact lv_ineg hx1 hb hdg (kk ls hL)
    · cases hx
  · obtain ⟨hdg, hn⟩ := gx_dec hM ha rfl
    dsimp only [gx_len] at hdg hn
    subst hn
    unfold gx_i1 at hx
    split at hx
    · cases hx
      exact lv_i2c hx1 hb hdg rfl (kk ls hL)
    · cases hx
  · obtain ⟨hdg, hn⟩ := gx_dec hM ha rfl
    dsimp only [gx_len] at hdg hn
    subst hn
    unfold gx_ll at hx
    split at hx
    · cases hx
      exact lv_ladd hx1 hb hdg (kk ls hL)
    · cases hx
  · obtain ⟨hdg, hn⟩ := gx_dec hM ha rfl
    dsimp only [gx_len] at hdg hn
    subst hn
    unfold gx_ll at hx
    split at hx
    · cases hx
      exact lv_lsub hx1 hb hdg (kk ls hL)
    · cases hx
  · obtain ⟨hdg, hn⟩ := gx_dec hM ha rfl
    dsimp only [gx_len] at hdg hn
    subst hn
    unfold gx_ll at hx
    split at hx
    · cases hx
      exact lv_lmul hx1 hb hdg (kk ls hL)
    · cases hx
  · obtain ⟨hdg, hn⟩ := gx_dec hM ha rfl
    dsimp only [gx_len] at hdg hn
    subst hn
    unfold gx_ll at hx
    split at hx
    · cases hx
      exact lv_land hx1 hb hdg (kk ls hL)
    · cases hx
  · obtain ⟨hdg, hn⟩ := gx_dec hM ha rfl
    dsimp only [gx_len] at hdg hn
    subst hn
    unfold gx_ll at hx
    split at hx
    · cases hx
      exact lv_lor hx1 hb hdg (kk ls hL)
    · cases hx
  · obtain ⟨hdg, hn⟩ := gx_dec hM ha rfl
    dsimp only [gx_len] at hdg hn
    subst hn
    unfold gx_ll at hx
    split at hx
    · cases hx
      exact lv_lxor hx1 hb hdg (kk ls hL)
    · cases hx
  · obtain ⟨hdg, hn⟩ := gx_dec hM ha rfl
    dsimp only [gx_len] at hdg hn
    subst hn
    unfold gx_li at hx
    split at hx
    · cases hx
      exact lv_lshl hx1 hb hdg rfl (kk ls hL)
    · cases hx
  · obtain ⟨hdg, hn⟩ := gx_dec hM ha rfl
    dsimp only [gx_len] at hdg hn
    subst hn
    unfold gx_li at hx
    split at hx
    · cases hx
      exact lv_lshr hx1 hb hdg rfl (kk ls hL)
    · cases hx
  · obtain ⟨hdg, hn⟩ := gx_dec hM ha rfl
    dsimp only [gx_len] at hdg hn
    subst hn
    unfold gx_li at hx
    split at hx
    · cases hx
      exact lv_lushr hx1 hb hdg rfl (kk ls hL)
    · cases hx
  · obtain ⟨hdg, hn⟩ := gx_dec hM ha rfl
    dsimp only [gx_len] at hdg hn
    subst hn
    unfold gx_lc at hx
    split at hx
    · cases hx
      exact W.lcmp hx1 hb hdg (kk ls hL)
    · cases hx
  · obtain ⟨hdg, hn⟩ := gx_dec hM ha rfl
    dsimp only [gx_len] at hdg hn
    subst hn
    unfold gx_il at hx
    split at hx
    · cases hx
      exact lv_i2l hx1 hb hdg rfl (kk ls hL)
    · cases hx
  · obtain ⟨hdg, hn⟩ := gx_dec hM ha rfl
    dsimp only [gx_len] at hdg hn
    subst hn
    unfold gx_l2 at hx
    split at hx
    · cases hx
      exact lv_l2i hx1 hb hdg rfl (kk ls hL)
    · cases hx
  · obtain ⟨hdg, hn⟩ := gx_dec hM ha rfl
    dsimp only [gx_len] at hdg hn
    subst hn
    unfold gx_dp at hx
    split at hx
    · cases hx
      exact lv_dup hx1 hb hdg rfl (kk ls hL)
    · cases hx
      exact lv_dup hx1 hb hdg rfl (kk ls hL)
    · cases hx
      exact lv_dup hx1 hb hdg rfl (kk ls hL)
    · cases hx
  · obtain ⟨hdg, hn⟩ := gx_dec hM ha rfl
    dsimp only [gx_len] at hdg hn
    subst hn
    unfold gx_dp2 at hx
    split at hx
    · cases hx
      exact lv_dup2_11 hx1 hb hdg rfl rfl (kk ls hL)
    · cases hx
      exact lv_dup2_11 hx1 hb hdg rfl rfl (kk ls hL)
    · cases hx
  · obtain ⟨hdg, hn⟩ := gx_dec hM ha rfl
    dsimp only [gx_len] at hdg hn
    subst hn
    unfold gx_pp at hx
    split at hx
    · cases hx
      exact lv_pop hx1 hb hdg rfl (kk ls hL)
    · cases hx
      exact lv_pop hx1 hb hdg rfl (kk ls hL)
    · cases hx
      exact lv_pop hx1 hb hdg rfl (kk ls hL)
    · cases hx
  · cases hx
end GX
