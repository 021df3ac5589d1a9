/-! THE PURE MACHINE: a heap is (next address, slots made, cells by address); gx_Runs tells a method's run over it; its rows are proved once over the kit's. -/
abbrev gx_C : Type := (Nat × vp_A) ⊕ (Nat × List Value)
abbrev gx_H : Type := Nat × Nat × (Nat → Option gx_C)
def gx_set (h : gx_H) (a : Nat) (e : gx_C) : gx_H := (h.1, h.2.1, fun q => if q = a then some e else h.2.2 q)
def gx_push (h : gx_H) (n : Nat) (e : gx_C) : gx_H := (h.1 + 1, h.2.1 + n, fun q => if q = h.1 then some e else h.2.2 q)
/-- fixed over a run: class ids and slots; array class ids; the first address of ours; the heap at the start; the script: its cell, its length, its numbers -/
abbrev gx_F : Type := va_G × (Nat → ClassId) × Nat × Heap × Nat × Nat × (Nat → Int32)
def gx_e (F : gx_F) (c : gx_C) : va_E := match c with
  | .inl q => .inl (F.2.1 q.1, q.2)
  | .inr o => .inr o
def gx_ty (F : gx_F) : List (ClassId × FieldType) := gx_TY.zipIdx.map (fun q => (F.2.1 q.2, q.1))
theorem gx_ty_at (F : gx_F) {t : Nat} {ty : FieldType} (h : gx_TY[t]? = some ty) : (gx_ty F)[t]? = some (F.2.1 t, ty) := by
  simp [gx_ty, List.getElem?_map, List.getElem?_zipIdx, h]
def gx_R (F : gx_F) (h : gx_H) (H : Heap) : Prop :=
  H.size = h.1 ∧ F.2.2.1 ≤ H.size ∧ (∀ q : Nat, q < F.2.2.1 → H[q]? = F.2.2.2.1[q]?) ∧ (∀ (q : Nat) (cell : Cell), F.2.2.1 ≤ q → H[q]? = some cell → cell.vm.isStatics = false) ∧ ∀ (a : Nat) (e : gx_C), h.2.2 a = some e → F.2.2.1 ≤ a ∧ va_at F.1 gx_cl (a, gx_e F e) H
theorem gx_at_vm {D : va_G} {cl : List vw_C} {a : Nat} {e : va_E} {H : Heap} {cell : Cell} (h : va_at D cl (a, e) H) (hc : H[a]? = some cell) : cell.vm.isStatics = false := by
  cases e with
  | inl x =>
    have h1 : H[a]? = some (vp_cell x.1 x.2) := h
    rw [hc] at h1
    cases h1
    obtain ⟨c, n, f | f | f | f | f⟩ := x <;> rfl
  | inr o =>
    obtain ⟨r, -, cell', h1, -, h3, -⟩ := h
    rw [hc] at h1
    cases h1
    rw [h3]
    rfl
theorem gx_R.put {F : gx_F} {h : gx_H} {H H1 : Heap} {a : Nat} {e0 e : gx_C} (hR : gx_R F h H) (ha : h.2.2 a = some e0) (hz : H1.size = H.size) (ho : ∀ q : Nat, q ≠ a → H1[q]? = H[q]?) (he : va_at F.1 gx_cl (a, gx_e F e) H1) : gx_R F (gx_set h a e) H1 := by
  obtain ⟨h1, h2, h3, h9, h4⟩ := hR
  have hb := (h4 a e0 ha).1
  refine ⟨hz.trans h1, by rw [hz]; exact h2, fun q hq => (ho q (by omega)).trans (h3 q hq), fun q cell hq hc => ?_, fun b e' hb' => ?_⟩
  · by_cases hqa : q = a
    · subst hqa
      exact gx_at_vm he hc
    · exact h9 q cell hq ((ho q hqa).symm.trans hc)
  by_cases hba : b = a
  · subst hba
    have : e' = e := by
      have h5 : (if b = b then some e else h.2.2 b) = some e' := hb'
      rw [if_pos rfl] at h5
      exact (Option.some.inj h5).symm
    subst this
    exact ⟨hb, he⟩
  · have h5 : (if b = a then some e else h.2.2 b) = some e' := hb'
    rw [if_neg hba] at h5
    exact ⟨(h4 b e' h5).1, (h4 b e' h5).2.kept (ho b hba)⟩
theorem gx_R.add {F : gx_F} {h : gx_H} {H H1 : Heap} {n : Nat} {e : gx_C} (hR : gx_R F h H) (hz : H1.size = H.size + 1) (ho : ∀ q : Nat, q < H.size → H1[q]? = H[q]?) (he : va_at F.1 gx_cl (H.size, gx_e F e) H1) : gx_R F (gx_push h n e) H1 := by
  obtain ⟨h1, h2, h3, h9, h4⟩ := hR
  refine ⟨by rw [hz, h1]; rfl, by omega, fun q hq => (ho q (by omega)).trans (h3 q hq), fun q cell hq hc => ?_, fun b e' hb' => ?_⟩
  · by_cases hqa : q = H.size
    · subst hqa
      exact gx_at_vm he hc
    · have hlt : q < H.size := by
        have := (Array.getElem?_eq_some_iff.mp hc).1
        omega
      exact h9 q cell hq ((ho q hlt).symm.trans hc)
  have h5 : (if b = h.1 then some e else h.2.2 b) = some e' := hb'
  by_cases hba : b = h.1
  · rw [if_pos hba] at h5
    cases h5
    rw [hba, ← h1]
    exact ⟨h2, he⟩
  · rw [if_neg hba] at h5
    have h6 := h4 b e' h5
    exact ⟨h6.1, h6.2.kept (ho b h6.2.lt)⟩
/-- the words that are told of a state beside the tables: links of nest mates, arrays over a class -/
def gx_nwb : Cond → Bool
  | .fieldLinkNest _ _ _ _ _ _ => true
  | .methodLinkNest _ _ _ _ => true
  | .arrayOver (.object _) => true
  | .castable _ _ => true
  | _ => false
theorem gx_nwok : ∀ w ∈ gx_NW, gx_nwb w = true := List.all_eq_true.mp (by decide +kernel)
theorem gx_nw_warm {w : Cond} (hw : gx_nwb w = true) {s U : State} (hW : s.WarmedH U.vm) (h : va_Nw w s) : va_Nw w U := by
  unfold gx_nwb at hw
  split at hw
  · exact va_Nw.warmF hW h
  · exact va_Nw.warmM hW h
  · exact va_AO.moved hW.alike h
  · exact va_Nw.warmC hW h
  · cases hw
theorem gx_nw_call {w : Cond} (hw : gx_nwb w = true) {U : State} {g : JFrame} {mk : MethodId} {a : Array Value} (h : va_Nw w U) : va_Nw w (U.calling g mk a) := by
  unfold gx_nwb at hw
  split at hw
  · exact va_Nw.same (u := U) rfl rfl h
  · exact va_Nw.same (u := U) rfl rfl h
  · exact va_AO.moved (u := U) (Vm.Alike.refl U.vm) h
  · exact va_Nw.same (u := U) rfl rfl h
  · cases hw
def gx_E (F : gx_F) (U : State) : Prop := va_K F.1 gx_cl (gx_ty F) U ∧ (∀ w ∈ gx_NW, va_Nw w U) ∧ (F.2.2.2.2.1 < F.2.2.1 ∧ va_X F.2.2.2.2.1 F.2.2.2.2.2.1 F.2.2.2.2.2.2 U F.2.2.2.1) ∧ F.2.2.2.1.size ≤ F.2.2.1 ∧ th_Z F.2.2.2.1 U
theorem gx_E.warm {F : gx_F} {s U : State} (hW : s.WarmedH U.vm) (h : gx_E F s) : gx_E F U := ⟨va_K.moved hW.alike h.1, fun w hw => gx_nw_warm (gx_nwok w hw) hW (h.2.1 w hw), ⟨h.2.2.1.1, va_X.moved hW.alike h.2.2.1.2⟩, h.2.2.2.1, th_Z.warm hW h.2.2.2.2⟩
theorem gx_E.call {F : gx_F} {U : State} {g : JFrame} {mk : MethodId} {a : Array Value} (h : gx_E F U) : gx_E F (U.calling g mk a) := ⟨va_K.moved (u := U) (U := U.calling g mk a) (Vm.Alike.refl U.vm) h.1, fun w hw => gx_nw_call (gx_nwok w hw) (h.2.1 w hw), ⟨h.2.2.1.1, va_X.moved (u := U) (U := U.calling g mk a) (Vm.Alike.refl U.vm) h.2.2.1.2⟩, h.2.2.2.1, th_Z.same (s := U) (U := U.calling g mk a) rfl h.2.2.2.2⟩
/-- a method's face: name, bytes, locals, answer's type, number of parameters -/
abbrev gx_S : Type := MethodName × ByteArray × Nat × Option FieldType × Nat
/-- an instruction of a table: instruction, length, constants, next place, jump's place, numbers -/
abbrev gx_I : Type := Instr × Nat × Int32 × Int64 × Nat × Nat × List Nat × gx_S
/-- a method: its face and its table -/
abbrev gx_M : Type := gx_S × List (Nat × gx_I)
def gx_at : List (Nat × gx_I) → Nat → Option gx_I
  | [], _ => none
  | q :: t, pc => match Nat.beq q.1 pc with
    | true => some q.2
    | false => gx_at t pc
theorem gx_at_mem {pc : Nat} {i : gx_I} : ∀ (t : List (Nat × gx_I)), gx_at t pc = some i → (pc, i) ∈ t
  | [], h => by simp [gx_at] at h
  | q :: t, h => by
    unfold gx_at at h
    split at h
    · next hq =>
      have h1 := Nat.eq_of_beq_eq_true hq
      have h2 := Option.some.inj h
      subst h1
      subst h2
      exact List.mem_cons_self
    · exact List.mem_cons_of_mem _ (gx_at_mem t h)
def gx_len : Instr → Nat
  | .aload _ => 2 | .astore _ => 2 | .bipush _ => 2 | .iload _ => 2 | .istore _ => 2 | .lload _ => 2 | .lstore _ => 2 | .ldc _ => 2 | .newarray _ => 2
  | .sipush _ => 3 | .iinc _ _ => 3 | .getfield _ => 3 | .putfield _ => 3 | .goto _ => 3 | .ifCond _ _ => 3 | .if_icmp _ _ => 3 | .if_acmp _ _ => 3 | .ifnull _ => 3 | .ifnonnull _ => 3
  | .invokespecial _ => 3 | .invokestatic _ => 3 | .invokevirtual _ => 3 | .new _ => 3 | .anewarray _ => 3 | .ldc2_w _ => 3
  | _ => 1
def gx_sw : Instr → Bool
  | .tableswitch _ _ _ _ => true
  | .lookupswitch _ _ => true
  | _ => false
/-- the kinds of fields -/
def gx_tc : FieldType → Nat
  | .int => 0
  | .boolean => 1
  | .object _ => 2
  | .array _ => 2
  | .long => 3
  | _ => 9
/-- the field of a table's row: class, number, nest mate or not, kind -/
def gx_fw (M : gx_M) (idx : Nat) (aux : List Nat) : Prop := match aux with
  | [ci, k, nest, tc] => ∃ (q : vw_C) (ty : FieldType), gx_cl[ci]? = some q ∧ k < q.2.2 ∧ parseFieldDescriptor (q.2.1 k).2.2.1 = some ty ∧ gx_tc ty = tc ∧
      ((nest = 0 ∧ Cond.fieldLink M.1.1.cls idx (q.2.1 k).1 (q.2.1 k).2.1 (q.2.1 k).2.2.1 ∈ gx_Ts) ∨ (nest = 1 ∧ Cond.fieldLinkNest M.1.1.cls idx (q.2.1 k).1 (q.2.1 k).2.1 (q.2.1 k).2.2.1 gx_host ∈ gx_NW))
  | _ => False
def gx_fin (M : gx_M) (aux : List Nat) : Prop := match aux with
  | [ci, k, nest, _] => ∃ q : vw_C, gx_cl[ci]? = some q ∧ ((q.2.1 k).2.2.2 = false ∨ (nest = 0 ∧ M.1.1.name = "<init>" ∧ (q.2.1 k).1 = M.1.1.cls ∧ (q.2.1 k).2.2.2 = true))
  | _ => False
def gx_nb (M : gx_M) (idx : Nat) (aux : List Nat) : Prop := match aux with
  | [ci] => ∃ q : vw_C, gx_cl[ci]? = some q ∧ Cond.classLink M.1.1.cls idx q.1 ∈ gx_Ts ∧ Cond.instantiable q.1 q.2.2 ∈ gx_Ts ∧ Cond.initialized q.1 ∈ gx_Ts
  | _ => False
def gx_ab (at_ : ArrayType) (aux : List Nat) : Prop := match aux with
  | [t] => gx_TY[t]? = some (newarray.typeOf at_) ∧ Cond.arrayClass (newarray.typeOf at_) ∈ gx_Ts
  | _ => False
def gx_qb (M : gx_M) (idx : Nat) (aux : List Nat) : Prop := match aux with
  | [t] => ∃ C : String, gx_TY[t]? = some (.object C) ∧ Cond.classLink M.1.1.cls idx C ∈ gx_Ts ∧ Cond.arrayOver (.object C) ∈ gx_NW
  | _ => False
/-- what is said of a callee -/
def gx_cb (y : gx_S) : Prop := Cond.code y.1 y.2.1 y.2.2.1 y.2.2.2.1 ∈ gx_Ts ∧ Cond.initialized y.1.cls ∈ gx_Ts ∧ (y.1.cls ≠ "java/lang/invoke/MethodHandle" ∧ y.1.cls ≠ "java/lang/invoke/VarHandle") ∧ (parseMethodDescriptor y.1.desc).map (fun d => d.parameters.length) = some y.2.2.2.2 ∧ y.2.2.1 ≤ 21
def gx_lb (M : gx_M) (idx : Nat) (y : MethodName) : Prop := Cond.methodLink M.1.1.cls idx y ∈ gx_Ts ∨ Cond.methodLinkNest M.1.1.cls idx y gx_host ∈ gx_NW
def gx_cV (M : gx_M) (idx : Nat) (y : gx_S) : Prop := gx_cb y ∧ gx_lb M idx y.1 ∧ Cond.instanceMethod y.1 ∈ gx_Ts ∧ Cond.selects y.1.cls y.1 y.1 ∈ gx_Ts
/-- calls told by a number: 0 Object's constructor, 1 a constructor, 2 a static method, 3 Math.max, 4 Math.min -/
def gx_cS (M : gx_M) (idx : Nat) (aux : List Nat) (y : gx_S) : Prop := match aux with
  | [2] => gx_cb y ∧ gx_lb M idx y.1 ∧ Cond.static y.1 ∈ gx_Ts
  | [3] => Cond.methodLink M.1.1.cls idx Lib.Math.max.name ∈ gx_Ts ∧ Cond.static Lib.Math.max.name ∈ gx_Ts ∧ Cond.initialized "java/lang/Math" ∈ gx_Ts ∧ Cond.code Lib.Math.max.name Lib.Math.max.code 2 (some .int) ∈ gx_Ts
  | [4] => Cond.methodLink M.1.1.cls idx Lib.Math.min.name ∈ gx_Ts ∧ Cond.static Lib.Math.min.name ∈ gx_Ts ∧ Cond.initialized "java/lang/Math" ∈ gx_Ts ∧ Cond.code Lib.Math.min.name Lib.Math.min.code 2 (some .int) ∈ gx_Ts
  | _ => True
def gx_cI (M : gx_M) (idx : Nat) (aux : List Nat) (y : gx_S) : Prop := match aux with
  | [0] => Cond.methodLink M.1.1.cls idx Lib.objectInit ∈ gx_Ts ∧ Cond.instanceMethod Lib.objectInit ∈ gx_Ts ∧ Cond.code Lib.objectInit ⟨#[0xb1]⟩ 1 none ∈ gx_Ts
  | [1] => gx_cb y ∧ gx_lb M idx y.1 ∧ Cond.instanceMethod y.1 ∈ gx_Ts ∧ y.1.name = "<init>" ∧ y.2.2.2.1 = none
  | _ => True
def gx_oki (M : gx_M) (i : gx_I) : Prop := match i.1 with
  | .getfield idx => gx_fw M idx i.2.2.2.2.2.2.1
  | .putfield idx => gx_fw M idx i.2.2.2.2.2.2.1 ∧ gx_fin M i.2.2.2.2.2.2.1
  | .new idx => gx_nb M idx i.2.2.2.2.2.2.1
  | .newarray a => gx_ab a i.2.2.2.2.2.2.1
  | .anewarray idx => gx_qb M idx i.2.2.2.2.2.2.1
  | .invokevirtual idx => gx_cV M idx i.2.2.2.2.2.2.2
  | .invokestatic idx => gx_cS M idx i.2.2.2.2.2.2.1 i.2.2.2.2.2.2.2
  | .invokespecial idx => gx_cI M idx i.2.2.2.2.2.2.1 i.2.2.2.2.2.2.2
  | .ldc2_w idx => Cond.constantLong M.1.1.cls idx i.2.2.2.1 ∈ gx_Ts
  | .ldc idx => Cond.constant M.1.1.cls idx i.2.2.1 ∈ gx_Ts
  | _ => True
def gx_joff : Instr → Option Int
  | .goto off => some off
  | .ifCond _ off => some off
  | .if_icmp _ off => some off
  | .if_acmp _ off => some off
  | .ifnull off => some off
  | .ifnonnull off => some off
  | _ => none
def gx_jok (pc tgt : Nat) (i : Instr) : Bool := match gx_joff i with
  | some off => decide ((pc : Int) + off = (tgt : Int))
  | none => true
def gx_okb (b : ByteArray) (q : Nat × gx_I) : Bool :=
  decide (decode b q.1 = .ok (q.2.1, q.2.2.1)) && ((decide (q.2.2.2.2.2.1 = q.1 + q.2.2.1) && (gx_sw q.2.1 || decide (q.2.2.1 = gx_len q.2.1))) && gx_jok q.1 q.2.2.2.2.2.2.1 q.2.1)
def gx_okl (M : gx_M) : List (Nat × gx_I) → Prop
  | [] => True
  | q :: t => gx_oki M q.2 ∧ gx_okl M t
def gx_ok (M : gx_M) : Prop := M.2.all (gx_okb M.1.2.1) = true ∧ gx_okl M M.2
theorem gx_nil {M : gx_M} : gx_okl M [] := trivial
theorem gx_cons {M : gx_M} {q : Nat × gx_I} {t : List (Nat × gx_I)} (h : gx_oki M q.2) (k : gx_okl M t) : gx_okl M (q :: t) := ⟨h, k⟩
theorem gx_okl_at {M : gx_M} {q : Nat × gx_I} : ∀ (t : List (Nat × gx_I)), gx_okl M t → q ∈ t → gx_oki M q.2
  | [], _, h => by cases h
  | x :: t, h, hq => by
    rcases List.mem_cons.mp hq with h1 | h1
    · rw [h1]; exact h.1
    · exact gx_okl_at t h.2 h1
theorem gx_ok_at {M : gx_M} (hM : gx_ok M) {pc : Nat} {i : gx_I} (h : gx_at M.2 pc = some i) : decode M.1.2.1 pc = .ok (i.1, i.2.1) ∧ i.2.2.2.2.1 = pc + i.2.1 ∧ (gx_sw i.1 = true ∨ i.2.1 = gx_len i.1) := by
  have h1 := List.all_eq_true.mp hM.1 _ (gx_at_mem _ h)
  simp only [gx_okb, Bool.and_eq_true, Bool.or_eq_true, decide_eq_true_eq] at h1
  exact ⟨h1.1, h1.2.1.1, h1.2.1.2⟩
theorem gx_jok_at {M : gx_M} (hM : gx_ok M) {pc : Nat} {i : gx_I} (h : gx_at M.2 pc = some i) : gx_jok pc i.2.2.2.2.2.1 i.1 = true := by
  have h1 := List.all_eq_true.mp hM.1 _ (gx_at_mem _ h)
  simp only [gx_okb, Bool.and_eq_true] at h1
  exact h1.2.2
theorem gx_oki_at {M : gx_M} (hM : gx_ok M) {pc : Nat} {i : gx_I} (h : gx_at M.2 pc = some i) : gx_oki M i := gx_okl_at M.2 hM.2 (gx_at_mem _ h)
theorem gx_dec {M : gx_M} (hM : gx_ok M) {pc : Nat} {i : gx_I} (h : gx_at M.2 pc = some i) (hs : gx_sw i.1 = false) : decode M.1.2.1 pc = .ok (i.1, gx_len i.1) ∧ i.2.2.2.2.1 = pc + gx_len i.1 := by
  obtain ⟨h1, h2, h3⟩ := gx_ok_at hM h
  rcases h3 with h3 | h3
  · rw [hs] at h3; cases h3
  · rw [← h3]; exact ⟨h1, h2⟩
theorem gx_cl_ws {ci : Nat} {q : vw_C} (hq : gx_cl[ci]? = some q) : ∀ w ∈ u_ws q.1 q.2.1 q.2.2, w ∈ gx_Ts := (gx_cl_ok q (List.mem_of_getElem? hq)).1
theorem gx_cl_ty {ci : Nat} {q : vw_C} (hq : gx_cl[ci]? = some q) : ∀ k, k < q.2.2 → parseFieldDescriptor (q.2.1 k).2.2.1 = some (gx_tyf q k) := (gx_cl_ok q (List.mem_of_getElem? hq)).2.1
theorem gx_cl_nm {ci : Nat} {q : vw_C} (hq : gx_cl[ci]? = some q) : ∀ a, a < q.2.2 → ∀ b, b < q.2.2 → a ≠ b → (q.2.1 a).2.1 ≠ (q.2.1 b).2.1 := (gx_cl_ok q (List.mem_of_getElem? hq)).2.2
theorem gx_cl_kd {ci : Nat} {q : vw_C} {ts : List Nat} (hq : gx_cl[ci]? = some q) (ht : gx_kd[ci]? = some ts) : ts.length = q.2.2 ∧ ∀ k, k < q.2.2 → ts[k]? = some (gx_tc (gx_tyf q k)) := by
  match ci, hq, ht with
  | 0, hq, ht => cases hq; cases ht; exact ⟨rfl, gx_kk0⟩
  | 1, hq, ht => cases hq; cases ht; exact ⟨rfl, gx_kk1⟩
  | 2, hq, ht => cases hq; cases ht; exact ⟨rfl, gx_kk2⟩
  | 3, hq, ht => cases hq; cases ht; exact ⟨rfl, gx_kk3⟩
  | 4, hq, ht => cases hq; cases ht; exact ⟨rfl, gx_kk4⟩
  | 5, hq, ht => cases hq; cases ht; exact ⟨rfl, gx_kk5⟩
  | 6, hq, ht => cases hq; cases ht; exact ⟨rfl, gx_kk6⟩
  | 7, hq, ht => cases hq; cases ht; exact ⟨rfl, gx_kk7⟩
  | n + 8, hq, ht => cases hq
/-- the locals as a list of places -/
def gx_L (ls : Array Slot) (nL : Nat) (L : List (Option Value)) : Prop := ls.size = nL ∧ lv_wf ls ∧ ∀ (i : Nat) (v : Value), L[i]? = some (some v) → ls[i]? = some (.val v)
def gx_prs (L : List (Option Value)) : List (Nat × Value) := (List.range L.length).filterMap (fun i => match L[i]? with
  | some (some v) => some (i, v)
  | _ => none)
theorem gx_prs_mem {L : List (Option Value)} {i : Nat} {v : Value} (h : L[i]? = some (some v)) : (i, v) ∈ gx_prs L := by
  refine List.mem_filterMap.mpr ⟨i, List.mem_range.mpr (List.getElem?_eq_some_iff.mp h).1, ?_⟩
  simp only [h]
theorem gx_prs_of {L : List (Option Value)} {q : Nat × Value} (h : q ∈ gx_prs L) : L[q.1]? = some (some q.2) := by
  obtain ⟨i, -, hi⟩ := List.mem_filterMap.mp h
  split at hi
  · next v hv =>
    cases hi
    exact hv
  · cases hi
theorem gx_L.has {ls : Array Slot} {nL : Nat} {L : List (Option Value)} (h : gx_L ls nL L) : lv_has ls nL (gx_prs L) := ⟨h.1, h.2.1, fun q hq => h.2.2 q.1 q.2 (gx_prs_of hq)⟩
theorem gx_L.of {ls : Array Slot} {nL : Nat} {L : List (Option Value)} {l : List (Nat × Value)} (h : lv_has ls nL l) (hl : ∀ (i : Nat) (v : Value), L[i]? = some (some v) → (i, v) ∈ l) : gx_L ls nL L := ⟨h.1, h.2.1, fun i v hv => h.2.2 (i, v) (hl i v hv)⟩
def gx_cl2 (x : Option Value) : Option Value := match x with
  | some (.long _) => none
  | some (.double _) => none
  | y => y
def gx_clr (L : List (Option Value)) (i : Nat) : List (Option Value) := match i with
  | 0 => L
  | j + 1 => match L[j]? with
    | some x => L.set j (gx_cl2 x)
    | none => L
def gx_st1 (L : List (Option Value)) (i : Nat) (v : Value) : List (Option Value) := (gx_clr L i).set i (some v)
def gx_st2 (L : List (Option Value)) (i : Nat) (v : Value) : List (Option Value) := ((gx_clr L i).set (i + 1) none).set i (some v)
theorem gx_cl2_cat {x : Option Value} {v : Value} (h : gx_cl2 x = some v) : x = some v ∧ v.category = 1 := by
  unfold gx_cl2 at h
  split at h
  · cases h
  · cases h
  · next y h1 h2 =>
    subst h
    refine ⟨rfl, ?_⟩
    cases v <;> first | rfl | exact absurd rfl (h1 _) | exact absurd rfl (h2 _)
theorem gx_clr_of {L : List (Option Value)} {i j : Nat} {v : Value} (h : (gx_clr L i)[j]? = some (some v)) : L[j]? = some (some v) ∧ (j + 1 = i → v.category = 1) := by
  unfold gx_clr at h
  split at h
  · exact ⟨h, fun q => by omega⟩
  · next k =>
    split at h
    · next x hx =>
      have hk := (List.getElem?_eq_some_iff.mp hx).1
      by_cases hj : j = k
      · subst hj
        rw [List.getElem?_set_self hk] at h
        have h1 := gx_cl2_cat (Option.some.inj h)
        exact ⟨by rw [hx, h1.1], fun _ => h1.2⟩
      · rw [List.getElem?_set_ne (Ne.symm hj)] at h
        exact ⟨h, fun q => by omega⟩
    · next hx =>
      refine ⟨h, fun q => ?_⟩
      have hjk : j = k := by omega
      subst hjk
      rw [hx] at h
      cases h
theorem gx_st1_ok {ls : Array Slot} {nL : Nat} {L : List (Option Value)} {i : Nat} {v : Value} (h : lv_has ls nL ((i, v) :: (gx_prs L).filter (fun q => !(q.1 == i) && !(q.1 + 1 == i && q.2.category == 2)))) : gx_L ls nL (gx_st1 L i v) := by
  refine gx_L.of h fun j w hj => ?_
  unfold gx_st1 at hj
  by_cases hji : j = i
  · subst hji
    have hlt : j < (gx_clr L j).length := by
      have := (List.getElem?_eq_some_iff.mp hj).1
      simpa using this
    rw [List.getElem?_set_self hlt] at hj
    cases hj
    exact List.mem_cons_self
  · rw [List.getElem?_set_ne (Ne.symm hji)] at hj
    obtain ⟨h1, h2⟩ := gx_clr_of hj
    refine List.mem_cons_of_mem _ (List.mem_filter.mpr ⟨gx_prs_mem h1, ?_⟩)
    by_cases h3 : j + 1 = i
    · have := h2 h3
      simp [hji, this]
    · simp [hji, h3]
theorem gx_st2_ok {ls : Array Slot} {nL : Nat} {L : List (Option Value)} {i : Nat} {v : Value} (h : lv_has ls nL ((i, v) :: (gx_prs L).filter (fun q => !(q.1 == i) && (!(q.1 == i + 1) && !(q.1 + 1 == i && q.2.category == 2))))) : gx_L ls nL (gx_st2 L i v) := by
  refine gx_L.of h fun j w hj => ?_
  unfold gx_st2 at hj
  by_cases hji : j = i
  · subst hji
    have hlt : j < ((gx_clr L j).set (j + 1) none).length := by
      have := (List.getElem?_eq_some_iff.mp hj).1
      simpa using this
    rw [List.getElem?_set_self hlt] at hj
    cases hj
    exact List.mem_cons_self
  · rw [List.getElem?_set_ne (Ne.symm hji)] at hj
    by_cases hj2 : j = i + 1
    · subst hj2
      rw [List.getElem?_set] at hj
      split at hj
      · split at hj <;> cases hj
      · next hne => exact absurd rfl hne
    · rw [List.getElem?_set_ne (Ne.symm hj2)] at hj
      obtain ⟨h1, h2⟩ := gx_clr_of hj
      refine List.mem_cons_of_mem _ (List.mem_filter.mpr ⟨gx_prs_mem h1, ?_⟩)
      by_cases h3 : j + 1 = i
      · have := h2 h3
        simp [hji, hj2, this]
      · simp [hji, hj2, h3]
