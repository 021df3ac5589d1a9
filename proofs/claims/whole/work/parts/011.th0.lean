section TH2
variable {a a' : Array Value} {u U : State}
/-- the words on Throwable's two statics -/
def th4 : List Cond := [.laysStatic Bundle.tN "UNASSIGNED_STACK" Bundle.steD, .laysStatic Bundle.tN "SUPPRESSED_SENTINEL" Bundle.listD, .isRef (.static Bundle.tN "UNASSIGNED_STACK" Bundle.steD), .isRef (.static Bundle.tN "SUPPRESSED_SENTINEL" Bundle.listD)]
theorem th_lay {C n d : String} (hvm : u.vm.Alike U.vm) (hH : ∀ (q : Nat) (cell : Cell), u.heap[q]? = some cell → cell.vm.isStatics = true → U.heap[q]? = some cell) (h : (Cond.laysStatic C n d).before a u = true) : (Cond.laysStatic C n d).before a' U = true := by
  have h1 := Cond.laysStatic_setVm (vm' := U.vm) hvm h
  obtain ⟨c, k, i, f, ad, cell, q1, q2, q3, q4, q5, q6, q7, q8, q9⟩ := Cond.laysStatic_spec (args := a) (first := u.setVm U.vm) (o := none) (s := u.setVm U.vm) (idx := []) h1
  have p2 : U.fieldFound? C n d = some (c, k, i, f) := q2
  have p1 : U.vm.findClass C = some c := q1
  have p5 : U.heap[ad]? = some cell := hH ad cell q5 q6
  simp [Cond.before, Cond.holds, Cond.value, p1, p2, q3, q4, p5, q6, q7, q8, q9]
theorem th_ref {C n d : String} (hvm : u.vm.Alike U.vm) (hH : ∀ (q : Nat) (cell : Cell), u.heap[q]? = some cell → cell.vm.isStatics = true → U.heap[q]? = some cell) (hl : (Cond.laysStatic C n d).before a u = true) (h : (Cond.isRef (.static C n d)).before a u = true) : (Cond.isRef (.static C n d)).before a' U = true := by
  obtain ⟨c, k, i, f, ad, cell, q1, q2, q3, q4, q5, q6, q7, q8, q9⟩ := Cond.laysStatic_spec (args := a) (first := u) (o := none) (s := u) (idx := []) hl
  obtain ⟨k', p2, he⟩ := State.fieldFound?_setVm hvm q2
  have p2' : U.fieldFound? C n d = some (c, k', i, f) := p2
  have p4 : k'.statics = some ad := by rw [he]; exact q4
  have p5 : U.heap[ad]? = some cell := hH ad cell q5 q6
  simp [Cond.before, Cond.holds, Cond.value, Term.eval, State.fieldNamed?, q2, q3, q4, q5, q6] at h
  simp [Cond.before, Cond.holds, Cond.value, Term.eval, State.fieldNamed?, p2', q3, p4, p5, q6]
  exact h
theorem th_move (hvm : u.vm.Alike U.vm) (hH : ∀ (q : Nat) (cell : Cell), u.heap[q]? = some cell → cell.vm.isStatics = true → U.heap[q]? = some cell) (h : ∀ w ∈ th4, w.before a u = true) : ∀ w ∈ th4, w.before a' U = true := by
  intro w hw
  simp only [th4, List.mem_cons, List.not_mem_nil, or_false] at hw
  rcases hw with rfl | rfl | rfl | rfl
  · exact th_lay hvm hH (h _ (by simp [th4]))
  · exact th_lay hvm hH (h _ (by simp [th4]))
  · exact th_ref hvm hH (h (.laysStatic Bundle.tN "UNASSIGNED_STACK" Bundle.steD) (by simp [th4])) (h _ (by simp [th4]))
  · exact th_ref hvm hH (h (.laysStatic Bundle.tN "SUPPRESSED_SENTINEL" Bundle.listD) (by simp [th4])) (h _ (by simp [th4]))
end TH2
def thN : List String := ["java/lang/RuntimeException", "java/lang/Exception"]
def iaeN : String := "java/lang/IllegalArgumentException"
def thX : List Cond := [.superclass Bundle.tN "java/lang/Object", .codeSync Bundle.tFill Jvm.LibCode.Throwable.Fill.code 1 (some (.object Bundle.tN)), .declares (Bundle.initS "java/lang/RuntimeException"), .declares (Bundle.initS "java/lang/Exception"), .declares (Bundle.initS Bundle.tN)]
/-- the law's own method that catches: its word -/
def lm_N : MethodName := ⟨"SignalHouseLaw", "module", "(LSignalHouse;[J)I"⟩
def lm_W : Cond := .codeWith lm_N method_3_code 3 (some FieldType.int) [(0, 8, 11, 13)]
theorem lm_g : (lm_W.onTables && lm_W.keeps) = true := rfl
/-- what a throw and its catch want beside the rest: words of the tables, Throwable's statics in the heap at the start, the message -/
def th_Z (H0 : Heap) (U : State) : Prop := (∀ w ∈ thX, va_Nw w U) ∧ va_Nw lm_W U ∧ (∀ w ∈ th4, w.before #[] ({ U with heap := H0 } : State) = true) ∧ ∃ q0, vk_R "SignalHouse" 77 "the text has a fault" q0 U
theorem th_X_warm {s U : State} (hW : s.WarmedH U.vm) (g : ∀ w ∈ thX, va_Nw w s) : ∀ w ∈ thX, va_Nw w U := by
  refine List.forall_mem_cons.mpr ⟨?_, List.forall_mem_cons.mpr ⟨?_, List.forall_mem_cons.mpr ⟨?_, List.forall_mem_cons.mpr ⟨?_, List.forall_mem_cons.mpr ⟨?_, fun _ h => absurd h List.not_mem_nil⟩⟩⟩⟩⟩
  · exact word_at hW (Or.inl rfl) (g _ (List.mem_of_getElem? (i := 0) rfl))
  · exact word_at hW (Or.inl rfl) (g _ (List.mem_of_getElem? (i := 1) rfl))
  · exact va_Nw.warmD hW (g _ (List.mem_of_getElem? (i := 2) rfl))
  · exact va_Nw.warmD hW (g _ (List.mem_of_getElem? (i := 3) rfl))
  · exact va_Nw.warmD hW (g _ (List.mem_of_getElem? (i := 4) rfl))
theorem th_X_same {s U : State} (hW : s.vm = U.vm) (g : ∀ w ∈ thX, va_Nw w s) : ∀ w ∈ thX, va_Nw w U := by
  refine List.forall_mem_cons.mpr ⟨?_, List.forall_mem_cons.mpr ⟨?_, List.forall_mem_cons.mpr ⟨?_, List.forall_mem_cons.mpr ⟨?_, List.forall_mem_cons.mpr ⟨?_, fun _ h => absurd h List.not_mem_nil⟩⟩⟩⟩⟩
  · exact va_Nw.same rfl hW (g _ (List.mem_of_getElem? (i := 0) rfl))
  · exact va_Nw.same rfl hW (g _ (List.mem_of_getElem? (i := 1) rfl))
  · exact va_Nw.same rfl hW (g _ (List.mem_of_getElem? (i := 2) rfl))
  · exact va_Nw.same rfl hW (g _ (List.mem_of_getElem? (i := 3) rfl))
  · exact va_Nw.same rfl hW (g _ (List.mem_of_getElem? (i := 4) rfl))
theorem th_Z.warm {H0 : Heap} {s U : State} (hW : s.WarmedH U.vm) (h : th_Z H0 s) : th_Z H0 U := by
  obtain ⟨h1, h2, h3, q0, h4⟩ := h
  exact ⟨th_X_warm hW h1, word_at hW (Or.inl lm_g) h2, th_move (u := ({ s with heap := H0 } : State)) (U := ({ U with heap := H0 } : State)) hW.alike (fun _ _ h _ => h) h3, q0, h4.warm hW⟩
theorem th_Z.same {H0 : Heap} {s U : State} (hW : s.vm = U.vm) (h : th_Z H0 s) : th_Z H0 U := by
  obtain ⟨h1, h2, h3, q0, h4⟩ := h
  exact ⟨th_X_same hW h1, va_Nw.same rfl hW h2, th_move (u := ({ s with heap := H0 } : State)) (U := ({ U with heap := H0 } : State)) (show s.vm.Alike U.vm by rw [hW]; exact Vm.Alike.refl _) (fun _ _ h _ => h) h3, q0, vk_R.same hW.symm h4⟩
