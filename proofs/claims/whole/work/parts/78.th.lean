section TH1
variable {p : Program} {l : Launch} {e : Env} {R : Room} {s : State} {m : MethodId} {args : Array Value} {below : List Frame} {meth : Method} {c : Code} {T : State} {locs : List Loc} {cells slots : Nat}
/-- the state as if the method began here -/
def th_s (s T : State) : State := ({ s with heap := T.heap, slotsUsed := T.slotsUsed } : State).setVm T.vm
theorem th_base (X : Stand p l e R s m args below meth c T locs cells slots) (hc : cells ≤ R.cells) (hs : slots ≤ R.slots) : Stand p l e ({ frames := R.frames, cells := R.cells - cells, slots := R.slots - slots, locals := R.locals }) (th_s s T) m args below meth c T [] 0 0 := by
  have hsame := X.same
  obtain ⟨e1, e2, e3, e4, e5, e6⟩ := hsame
  have hT : T = (({ s.setFrames T.frames with heap := T.heap, slotsUsed := T.slotsUsed } : State)).setVm T.vm := by
    have h1 : T = (T.setVm s.vm).setVm T.vm := rfl
    rw [e1] at h1
    exact h1
  have hal : s.vm.Alike T.vm := X.warmed.alike
  have hsz := X.heapSize
  have hus := X.used
  have hloc : (th_s s T).localsInUse = s.localsInUse := by
    unfold State.localsInUse
    show stackWeight s.frames + (match s.frames with
      | .invoking m _ :: _ => (((T.vm.method? m).bind (·.code)).map (·.maxLocals)).getD 0 + 11
      | _ => 0) = _
    rw [X.frames]
    simp only [hal.method?]
  refine ⟨X.admits, X.cas, X.clock, X.frames, ?_, ?_, X.method', X.code, X.here, X.tail, State.WarmedH.refl _, X.limits, X.bytes, ?_⟩
  · have hr := X.room
    have hb := X.book
    simp only [State.hasRoom, Bool.and_eq_true, decide_eq_true_eq] at hr ⊢
    rw [hloc]
    obtain ⟨⟨⟨⟨r1, r2⟩, r3⟩, r4⟩, r5⟩ := hr
    refine ⟨⟨⟨⟨r1, r2⟩, ?_⟩, ?_⟩, hb⟩
    · show T.heap.size + (R.cells - cells) ≤ _
      omega
    · show T.slotsUsed + (R.slots - slots) ≤ _
      omega
  · have hh := X.hears
    unfold State.hears at hh ⊢
    have hcd : ∀ q, (th_s s T).code? q = s.code? q := fun q => by
      rw [State.code?_eq, State.code?_eq]
      show (T.vm.method? q).bind _ = _
      rw [hal.method?]
    have hmd : ∀ q, (th_s s T).vm.method? q = s.vm.method? q := fun q => by
      show T.vm.method? q = _
      rw [hal.method?]
    simp only [hcd, hmd]
    exact hh
  · refine ⟨?_, Nat.le_refl _, Nat.le_refl _, ?_, ?_, fun a cc ha => ⟨cc, ha, rfl, rfl, fun _ _ => rfl⟩⟩
    · show T.setVm T.vm = _
      exact hT
    · show T.slotsUsed = T.slotsUsed + _
      have : (T.setVm (th_s s T).vm).heap.toList.drop (th_s s T).heap.size = [] := by
        show T.heap.toList.drop T.heap.size = []
        rw [← Array.length_toList, List.drop_length]
      rw [this]
      rfl
    · have : (T.setVm (th_s s T).vm).heap.toList.drop (th_s s T).heap.size = [] := by
        show T.heap.toList.drop T.heap.size = []
        rw [← Array.length_toList, List.drop_length]
      rw [this]
      exact Nat.le_refl _
end TH1
theorem th_own {P : Cond → Prop} (hT : ∀ w ∈ gx_Ts, P w) (hC : P n_7) (h4 : ∀ w ∈ th4, P w) (hX : ∀ w ∈ thX, P w) : ∀ w ∈ Bundle.ownAtoms "SignalHouse" 79 iaeN thN, P w := by
  refine List.forall_mem_cons.mpr ⟨?_, List.forall_mem_cons.mpr ⟨?_, List.forall_mem_cons.mpr ⟨?_, List.forall_mem_cons.mpr ⟨?_, List.forall_mem_cons.mpr ⟨?_, List.forall_mem_cons.mpr ⟨?_, List.forall_mem_cons.mpr ⟨?_, List.forall_mem_cons.mpr ⟨?_, List.forall_mem_cons.mpr ⟨?_, List.forall_mem_cons.mpr ⟨?_, List.forall_mem_cons.mpr ⟨?_, List.forall_mem_cons.mpr ⟨?_, List.forall_mem_cons.mpr ⟨?_, List.forall_mem_cons.mpr ⟨?_, List.forall_mem_cons.mpr ⟨?_, List.forall_mem_cons.mpr ⟨?_, List.forall_mem_cons.mpr ⟨?_, List.forall_mem_cons.mpr ⟨?_, List.forall_mem_cons.mpr ⟨?_, List.forall_mem_cons.mpr ⟨?_, List.forall_mem_cons.mpr ⟨?_, List.forall_mem_cons.mpr ⟨?_, List.forall_mem_cons.mpr ⟨?_, List.forall_mem_cons.mpr ⟨?_, List.forall_mem_cons.mpr ⟨?_, List.forall_mem_cons.mpr ⟨?_, List.forall_mem_cons.mpr ⟨?_, List.forall_mem_cons.mpr ⟨?_, List.forall_mem_cons.mpr ⟨?_, List.forall_mem_cons.mpr ⟨?_, List.forall_mem_cons.mpr ⟨?_, List.forall_mem_cons.mpr ⟨?_, List.forall_mem_cons.mpr ⟨?_, List.forall_mem_cons.mpr ⟨?_, List.forall_mem_cons.mpr ⟨?_, List.forall_mem_cons.mpr ⟨?_, List.forall_mem_cons.mpr ⟨?_, List.forall_mem_cons.mpr ⟨?_, List.forall_mem_cons.mpr ⟨?_, List.forall_mem_cons.mpr ⟨?_, List.forall_mem_cons.mpr ⟨?_, List.forall_mem_cons.mpr ⟨?_, List.forall_mem_cons.mpr ⟨?_, List.forall_mem_cons.mpr ⟨?_, List.forall_mem_cons.mpr ⟨?_, List.forall_mem_cons.mpr ⟨?_, List.forall_mem_cons.mpr ⟨?_, List.forall_mem_cons.mpr ⟨?_, List.forall_mem_cons.mpr ⟨?_, List.forall_mem_cons.mpr ⟨?_, List.forall_mem_cons.mpr ⟨?_, List.forall_mem_cons.mpr ⟨?_, List.forall_mem_cons.mpr ⟨?_, List.forall_mem_cons.mpr ⟨?_, List.forall_mem_cons.mpr ⟨?_, List.forall_mem_cons.mpr ⟨?_, List.forall_mem_cons.mpr ⟨?_, fun _ h => absurd h List.not_mem_nil⟩⟩⟩⟩⟩⟩⟩⟩⟩⟩⟩⟩⟩⟩⟩⟩⟩⟩⟩⟩⟩⟩⟩⟩⟩⟩⟩⟩⟩⟩⟩⟩⟩⟩⟩⟩⟩⟩⟩⟩⟩⟩⟩⟩⟩⟩⟩⟩⟩⟩⟩⟩⟩⟩⟩⟩⟩
  · exact hT _ wt_125
  · exact hX _ (List.mem_of_getElem? (i := 0) rfl)
  · exact hT _ wt_720
  · exact hX _ (List.mem_of_getElem? (i := 1) rfl)
  · exact hT _ wt_723
  · exact hT _ wt_725
  · exact hT _ wt_714
  · exact hT _ wt_715
  · exact hT _ wt_136
  · exact hT _ wt_137
  · exact hT _ wt_716
  · exact hT _ wt_719
  · exact hT _ wt_722
  · exact hT _ wt_739
  · exact hT _ wt_704
  · exact hT _ wt_740
  · exact hT _ wt_706
  · exact hT _ wt_741
  · exact hT _ wt_708
  · exact hT _ wt_717
  · exact h4 _ (List.mem_of_getElem? (i := 0) rfl)
  · exact hT _ wt_718
  · exact h4 _ (List.mem_of_getElem? (i := 1) rfl)
  · exact hT _ wt_710
  · exact hT _ wt_736
  · exact hT _ wt_737
  · exact hT _ wt_738
  · exact hT _ wt_710
  · exact hT _ wt_727
  · exact hT _ wt_728
  · exact hT _ wt_729
  · exact hT _ wt_730
  · exact hX _ (List.mem_of_getElem? (i := 2) rfl)
  · exact hT _ wt_730
  · exact hT _ wt_731
  · exact hT _ wt_732
  · exact hT _ wt_733
  · exact hX _ (List.mem_of_getElem? (i := 3) rfl)
  · exact hT _ wt_733
  · exact hT _ wt_734
  · exact hT _ wt_735
  · exact hT _ wt_736
  · exact hX _ (List.mem_of_getElem? (i := 4) rfl)
  · exact hT _ wt_726
  · exact hT _ wt_700
  · exact hC
  · exact hT _ wt_701
  · exact hT _ wt_702
  · exact hT _ wt_703
  · exact hT _ wt_705
  · exact hT _ wt_707
  · exact hT _ wt_709
  · exact h4 _ (List.mem_of_getElem? (i := 2) rfl)
  · exact h4 _ (List.mem_of_getElem? (i := 3) rfl)
  · exact hT _ wt_713
  · exact hT _ wt_712
  · exact hT _ wt_711
theorem hd37 : decode prog_1_method_3_code 37 = .ok (.new 75, 3) := by decide +kernel
theorem hd40 : decode prog_1_method_3_code 40 = .ok (.dup, 1) := by decide +kernel
theorem hd41 : decode prog_1_method_3_code 41 = .ok (.ldc 77, 2) := by decide +kernel
theorem hd43 : decode prog_1_method_3_code 43 = .ok (.invokespecial 79, 3) := by decide +kernel
theorem hd46 : decode prog_1_method_3_code 46 = .ok (.athrow, 1) := by decide +kernel
section TH3
variable {p : Program} {l : Launch} {e : Env} {R : Room} {s : State} {m : MethodId} {args : Array Value} {below : List Frame} {meth : Method} {c : Code} {T : State} {locs : List Loc} {cells slots : Nat}
theorem th_fr (X : Stand p l e R s m args below meth c T locs cells slots) (fs : List Frame) : T.setFrames fs = (th_s s T).setFrames fs := by
  have e1 := X.same.1
  have hT : T = (({ s.setFrames T.frames with heap := T.heap, slotsUsed := T.slotsUsed } : State)).setVm T.vm := by
    have h1 : T = (T.setVm s.vm).setVm T.vm := rfl
    rw [e1] at h1
    exact h1
  have h2 : T.setFrames fs = ((({ s.setFrames T.frames with heap := T.heap, slotsUsed := T.slotsUsed } : State)).setVm T.vm).setFrames fs := congrArg (fun z => State.setFrames z fs) hT
  rw [h2]
  show ((({ (s.setFrames T.frames) with heap := T.heap, slotsUsed := T.slotsUsed } : State)).setVm T.vm).setFrames fs = ((({ s with heap := T.heap, slotsUsed := T.slotsUsed } : State)).setVm T.vm).setFrames fs
  have h3 := State.setFrames_setFrames s T.frames fs
  show ((({ (s.setFrames T.frames).setFrames fs with heap := T.heap, slotsUsed := T.slotsUsed } : State)).setVm T.vm) = ((({ s.setFrames fs with heap := T.heap, slotsUsed := T.slotsUsed } : State)).setVm T.vm)
  rw [h3]
/-- what the throwing run comes to -/
def th_Q (F : gx_F) (h1 : gx_H) (s : State) (below : List Frame) (locs : List Loc) (k n x : Nat) (U : State) : Prop := U.status = .running ∧ Ended U below (.threw x) ∧ s.WarmedH U.vm ∧ s.sameButNew ({ U with vm := s.vm } : State) locs k n ∧ gx_R F (h1.1 + 1, h1.2.1 + 6, h1.2.2) U.heap ∧ ∃ ce : Cell, U.heap[x]? = some ce ∧ ce.vm.isStatics = false ∧ s.vm.findClass iaeN = some ce.cls
theorem th_same {u v : State} {k n : Nat} (h : u.sameButNew v [] k n) : ∀ q : Nat, q < u.heap.size → v.heap[q]? = u.heap[q]? := by
  intro q hq
  obtain ⟨cc, hcc⟩ : ∃ cc, u.heap[q]? = some cc := ⟨u.heap[q], Array.getElem?_eq_getElem hq⟩
  obtain ⟨c', h1, h2, h3, h4⟩ := h.2.2.2.2.2 q cc hcc
  have hs : c'.slots = cc.slots := by
    apply Array.ext_getElem?
    intro i
    exact h4 i (by simp)
  rw [h1, hcc, h2, hs]
theorem th_W {F : gx_F} {h1 : gx_H} {H : Heap} {ls : Array Slot} {q0 : Nat} (hI : gx_In F m_H_module p s m args meth c) (hX : ∀ w ∈ thX, va_Nw w s) (h4 : ∀ w ∈ th4, w.before args s = true) (hS : vk_R "SignalHouse" 77 "the text has a fault" q0 s) (hR : gx_R F h1 H)
    (hst : ∀ (q : Nat) (cell : Cell), s.heap[q]? = some cell → cell.vm.isStatics = true → q < F.2.2.1) (hsH : ∀ q : Nat, q < F.2.2.1 → H[q]? = s.heap[q]?) (hno : c.exceptionTable.isEmpty = true) (htr : e.platform.stackTraces = false) (hls : ls.size = m_H_module.1.2.2.1)
    (hc : cells + 1 ≤ R.cells) (hs : slots + 6 ≤ R.slots) (hf : 6 < R.frames) (hl : 100 ≤ R.locals) :
    W p l e R s m args below meth c H locs cells slots (th_Q F h1 s below locs (cells + 1) (slots + 6) H.size) (F0 m 37 ls []) := by
  intro T hT X
  obtain ⟨i1, i2, i3, i4, i5, i6, i7, i8, i9⟩ := hI
  have X' := th_base X (by omega) (by omega)
  have hW : s.WarmedH (th_s s T).vm := X.warmed
  have hown : (th_s s T).vm.findClass "SignalHouse" = some m.cls := by
    show T.vm.findClass "SignalHouse" = _
    rw [X.warmed.alike.findClass]
    exact i6
  have hTs : ∀ w ∈ gx_Ts, w.before args (th_s s T) = true := fun w hw => word_at hW (gx_Tsg w hw) (i7 w hw)
  have hE' : gx_E F (th_s s T) := i8.warm hW
  have hCa : n_7.before args (th_s s T) = true := va_Nw.use rfl (hE'.2.1 n_7 nt_7)
  have hXX : ∀ w ∈ thX, w.before args (th_s s T) = true := by
    have g : ∀ w, w ∈ thX → va_Nw w s := hX
    refine List.forall_mem_cons.mpr ⟨?_, List.forall_mem_cons.mpr ⟨?_, List.forall_mem_cons.mpr ⟨?_, List.forall_mem_cons.mpr ⟨?_, List.forall_mem_cons.mpr ⟨?_, fun _ h => absurd h List.not_mem_nil⟩⟩⟩⟩⟩
    · exact word_at hW (Or.inl rfl) (g _ (List.mem_of_getElem? (i := 0) rfl))
    · exact word_at hW (Or.inl rfl) (g _ (List.mem_of_getElem? (i := 1) rfl))
    · exact va_Nw.use rfl (va_Nw.warmD hW (g _ (List.mem_of_getElem? (i := 2) rfl)))
    · exact va_Nw.use rfl (va_Nw.warmD hW (g _ (List.mem_of_getElem? (i := 3) rfl)))
    · exact va_Nw.use rfl (va_Nw.warmD hW (g _ (List.mem_of_getElem? (i := 4) rfl)))
  have hH4 : ∀ w ∈ th4, w.before args (th_s s T) = true := th_move (u := s) (U := th_s s T) hW.alike (fun q cell hq hqs => by
    show T.heap[q]? = _
    rw [hT, hsH q (hst q cell hq hqs)]
    exact hq) h4
  have hAll : ∀ w ∈ Bundle.ownAtoms "SignalHouse" 79 iaeN thN, w.before args (th_s s T) = true := th_own hTs hCa hH4 hXX
  have hb : c.code = prog_1_method_3_code := i2
  obtain ⟨vm', cC, kC, n1, n2, n3, n4, X1, st1⟩ := X'.newCold i1 (own := "SignalHouse") (C := iaeN) (index := 75) (n := 6) hown (hTs _ wt_699) (hTs _ wt_700) (hTs _ wt_128) (g := F0 m 37 ls []) rfl (by rw [hb]; exact hd37) (by show 0 + 1 ≤ R.cells - cells; omega) (by show 0 + 6 ≤ R.slots - slots; omega)
  have hcell : ((T.setVm vm').pushCell { cls := cC, slots := Array.map defaultValue kC.instanceTypes }).heap[T.heap.size]? = some (freshCell cC kC) := by
    show (T.heap.push _)[T.heap.size]? = _
    simp
  generalize hT1 : (T.setVm vm').pushCell { cls := cC, slots := Array.map defaultValue kC.instanceTypes } = T1 at X1 st1 hcell
  have hSt : vk_R "SignalHouse" 77 "the text has a fault" q0 (th_s s T) := hS.warm hW
  have hS1 : (Cond.stringRef "SignalHouse" 77 "the text has a fault").before args (th_s s T) = true := hSt.1
  have hS2 : (Term.string "SignalHouse" 77).eval args (th_s s T) none [] (th_s s T) = some (.ref q0) := hSt.2
  have hout : ∀ x ∈ c.exceptionTable.toList, covers x (43 + 3) = false := fun x hx => by
    have : c.exceptionTable = #[] := by simpa using hno
    rw [this] at hx
    cases hx
  obtain ⟨U, u1, u2, u3, u4, u5, ce, u6, u7⟩ := X1.ctorThrowS i1 htr (own := "SignalHouse") (cls := iaeN) (names := thN) (ic := 79) hown (by decide +kernel) (by decide +kernel) hAll (fun x hx => by cases hx) (a := T.heap.size) n1 n2 hcell (Nat.le_refl _) (msg := .ref q0) rfl
    (g := F0 m 43 ls [.ref q0, .ref T.heap.size, .ref T.heap.size]) rfl (hls.trans i3.symm) rfl rfl (rest := []) rfl (by rw [hb]; exact hd43) (by rw [hb]; exact hd46) hout (by show 2 + 3 < R.frames; omega) (by show 2 * 0 + (1 + 0) + (13 * (2 + 1) + 42) ≤ R.locals; omega) i5
  have hsz : T.heap.size = H.size := by rw [hT]
  have hUs : U.heap.size = T.heap.size + 1 := by
    have a1 : U.heap.size ≤ T.heap.size + 1 := u5.2.2.1
    have a2 := (Array.getElem?_eq_some_iff.mp u6).1
    omega
  have hUk : ∀ q : Nat, q < T.heap.size → U.heap[q]? = T.heap[q]? := fun q hq => th_same (u := th_s s T) u5 q hq
  obtain ⟨r1, r2, r3, r4, r5⟩ := hR
  refine ⟨U, ?_, u2, by rw [← hsz]; exact u3, State.WarmedH.trans X.warmed u4, ?_, ⟨?_, ?_, fun q hq => ?_, fun q cell hq hc => ?_, fun q ee hq => ?_⟩, ce, by rw [← hsz]; exact u6, by rw [u7.vm]; rfl, ?_⟩
  · refine st1 _ ?_
    show Steps p.tables e below (T1.setTop { method := m, pc := 40, locals := ls, stack := [.ref T.heap.size], locked := none }) U
    jvm_step X1.here [X1.here.top, i1, hb, hd40, Value.category]
    exact X1.ldcString i1 hown hS1 hS2 (g := { method := m, pc := 41, locals := ls, stack := [.ref T.heap.size, .ref T.heap.size], locked := none }) rfl (by rw [hb]; exact hd41) U u1
  · have k1 : T.sameButNew ({ U with vm := T.vm } : State) [] 1 6 := by
      obtain ⟨v1, v2⟩ := u5
      refine ⟨?_, v2⟩
      have := th_fr X U.frames
      show ({ U with vm := T.vm } : State) = { T.setFrames U.frames with heap := U.heap, slotsUsed := U.slotsUsed }
      rw [this]
      exact v1
    have k2 := X.same.trans (k1.setVm s.vm)
    rw [List.append_nil] at k2
    exact k2
  · show U.heap.size = h1.1 + 1
    rw [hUs, hsz, r1]
  · rw [hUs]
    omega
  · rw [hUk q (by omega), hT]
    exact r3 q hq
  · by_cases e1 : q = T.heap.size
    · rw [e1, u6] at hc
      cases hc
      rw [u7.vm]
      rfl
    · have hlt : q < T.heap.size := by
        have := (Array.getElem?_eq_some_iff.mp hc).1
        omega
      rw [hUk q hlt, hT] at hc
      exact r4 q cell hq hc
  · have hq' : h1.2.2 q = some ee := hq
    obtain ⟨b1, b2⟩ := r5 q ee hq'
    exact ⟨b1, b2.kept (by rw [hUk q (by have := b2.lt; omega), hT])⟩
  · have k := u7.cls
    have : (th_s s T).vm.findClass iaeN = s.vm.findClass iaeN := X.warmed.alike.findClass iaeN _
    rw [this] at k
    exact k
end TH3
section TH4
variable {l : Launch} {F : gx_F} {d : Nat} {a : Nat} {A : Nat → Nat} {σ : ck_S} {h : gx_H}
theorem th4_any {B B' : Array Value} {U : State} (h : ∀ w ∈ th4, w.before B U = true) : ∀ w ∈ th4, w.before B' U = true := th_move (Vm.Alike.refl _) (fun _ _ h _ => h) h
/-- how it ends -/
def th_E (F : gx_F) (h h' : gx_H) (s : State) (o : Outcome) (t : State) : Prop := o = .threw (h'.1 - 1) ∧ s.WarmedH t.vm ∧ (∃ L, s.sameButNew ({ t with vm := s.vm } : State) L (h'.1 - h.1) (h'.2.1 - h.2.1) ∧ ∀ q ∈ L, F.2.2.1 ≤ q.base) ∧ gx_R F h' t.heap ∧ ∃ ce : Cell, t.heap[h'.1 - 1]? = some ce ∧ ce.vm.isStatics = false ∧ s.vm.findClass iaeN = some ce.cls
def th_M (l : Launch) (F : gx_F) (D : Nat) (a : Nat) (h h' : gx_H) : Prop := MetFree l m_H_module.1.1 (headSpec (.code m_H_module.1.1 m_H_module.1.2.1 m_H_module.1.2.2.1 m_H_module.1.2.2.2.1 :: gx_Ts) { frames := D, cells := h'.1 - h.1, slots := h'.2.1 - h.2.1, locals := 40 * D })
  (fun b U => b = #[.ref a] ∧ gx_E F U ∧ gx_R F h U.heap) (fun _ _ _ _ _ => True) (fun _ s o t => th_E F h h' s o t)
theorem th_met {r : Int32 × ck_S} (htr : ∀ e, l.admits e → e.platform.stackTraces = false) (hp : sp_H_thrown σ = some r) (hA : ck_At h_K a A σ h) : ∃ h1 : gx_H, ck_At h_K a A r.2 h1 ∧ ck_Fr h_K a A σ h r.2 h1 ∧ h.1 ≤ h1.1 ∧ h.2.1 ≤ h1.2.1 ∧ th_M l F (d + 163) a h (h1.1 + 1, h1.2.1 + 6, h1.2.2) := by
  obtain ⟨⟨k, h1⟩, ⟨g1, g2, g0, gr⟩, hk, σ', hσ, hA', hF'⟩ := w_H_thrown (l := l) (F := F) (d := d) (a := a) (A := A) hp σ h h hA ck_Fr.rf
  dsimp only at g1 g2 g0 gr hk hA' hF'
  subst hk
  subst hσ
  refine ⟨h1, hA', hF', g1, g2, ?_⟩
  refine MetFree.of_bodyS (code := m_H_module.1.2.1) (maxLocals := m_H_module.1.2.2.1) (ret := m_H_module.1.2.2.2.1) (by decide +kernel) ?_ ?_
  · intro args s m hh hn
    obtain ⟨meth, c, h1, h2, h3, h4, h5, h6, -, -⟩ := Cond.code_spec hn (atoms_spec (ws := Cond.code m_H_module.1.1 m_H_module.1.2.1 m_H_module.1.2.2.1 m_H_module.1.2.2.2.1 :: gx_Ts) hh _ List.mem_cons_self)
    exact ⟨meth, c, h1, h2, h3, h4, h5, h6⟩
  · intro p e s m args below meth c s₁ B hml hP _
    obtain ⟨rfl, hE, hR⟩ := hP
    obtain ⟨hsz0, hX, -, h4', q0, hS⟩ := hE.2.2.2
    have h4 : ∀ w ∈ th4, w.before #[] s = true := th_move (u := ({ s with heap := F.2.2.2.1 } : State)) (Vm.Alike.refl _) (fun q cell hq _ => by
      have hq' : F.2.2.2.1[q]? = some cell := hq
      have hlt := (Array.getElem?_eq_some_iff.mp hq').1
      rw [hR.2.2.1 q (by omega)]
      exact hq') h4'
    have hts := atoms_spec (ws := .code m_H_module.1.1 m_H_module.1.2.1 m_H_module.1.2.2.1 m_H_module.1.2.2.2.1 :: gx_Ts) B.pre
    have hlocks : meth.locks = false := B.notSynchronized
    have hI : gx_In F m_H_module p s m #[.ref a] meth c := ⟨B.exec, B.bytes, hml, B.returns, hlocks, findClass_of_methodNamed B.named, fun w hw => hts w (List.mem_cons_of_mem _ hw), hE, fun hi => by rw [(name_of_methodNamed B.named B.method).1]; exact hi⟩
    have hno : c.exceptionTable.isEmpty = true := B.noHandlers (hts _ List.mem_cons_self)
    have hh0 : s₁.heap = s.heap := by rw [B.state]; rfl
    have hl := lv_entry (n := m_H_module.1.2.2.1) [Value.ref a] (Nat.le_of_ble_eq_true rfl)
    have hW : W p l e { frames := d + 163, cells := h1.1 + 1 - h.1, slots := h1.2.1 + 6 - h.2.1, locals := 40 * (d + 163) } s m #[.ref a] below meth c s.heap [] 0 0 (fun t => ∃ o, t.status = .running ∧ Ended t below o ∧ th_E F h (h1.1 + 1, h1.2.1 + 6, h1.2.2) s o t) (entryFrame m [Value.ref a].toArray m_H_module.1.2.2.1) := by
      rw [lg_entry_eq]
      generalize (lg_sl [Value.ref a] ++ List.replicate (m_H_module.1.2.2.1 - (lg_sl [Value.ref a]).length) Slot.unset).toArray = ls at hl ⊢
      have hLs : gx_L ls m_H_module.1.2.2.1 [some (.ref a), none, none] := gx_L.of hl fun i w hi => by
        match i, hi with
        | 0, hi =>
          cases hi
          exact List.mem_cons_self
        | 1, hi => cases hi
        | 2, hi => cases hi
        | i + 3, hi => cases hi
      refine gr p e _ s m #[.ref a] below meth c s.heap [] 0 0 (h1.1 - h.1) (h1.2.1 - h.2.1) _ ls hI hR hLs (fun q hq => by cases hq) (Nat.le_refl _) (Nat.le_refl _) (by omega) (by omega) (by show h1.1 - h.1 ≤ h1.1 + 1 - h.1; omega) (by show h1.2.1 - h.2.1 ≤ h1.2.1 + 6 - h.2.1; omega) ?_
      intro pc' st' ls' H' locs' hXX hR' hlo' hsz
      obtain ⟨rfl, rfl⟩ := hXX
      intro T hT X
      obtain ⟨t, t1, t2, t3, t4, t5, t6, ce, t7, t8, t9⟩ := th_W (e := e) (R := { frames := d + 163, cells := h1.1 + 1 - h.1, slots := h1.2.1 + 6 - h.2.1, locals := 40 * (d + 163) }) hI hX (th4_any h4) hS hR' (fun q cell hq hqs => by
        rcases Nat.lt_or_ge q F.2.2.1 with e1 | e1
        · exact e1
        · have := hR.2.2.2.1 q cell e1 hq
          rw [this] at hqs
          cases hqs) (fun q hq => by rw [hR'.2.2.1 q hq, hR.2.2.1 q hq]) hno (htr e X.admits) hsz (by show h1.1 - h.1 + 1 ≤ h1.1 + 1 - h.1; omega) (by show h1.2.1 - h.2.1 + 6 ≤ h1.2.1 + 6 - h.2.1; omega) (by show 6 < d + 163; omega) (by show 100 ≤ 40 * (d + 163); omega) T hT X
      have hs1 : H'.size = h1.1 := hR'.1
      refine ⟨t, t1, .threw H'.size, t2, t3, ?_, t4, ⟨locs', ?_, hlo'⟩, t6, ce, ?_, t8, t9⟩
      · show Outcome.threw H'.size = .threw (h1.1 + 1 - 1)
        rw [hs1, Nat.add_sub_cancel]
      · show s.sameButNew _ locs' (h1.1 + 1 - h.1) (h1.2.1 + 6 - h.2.1)
        rw [show h1.1 + 1 - h.1 = h1.1 - h.1 + 1 by omega, show h1.2.1 + 6 - h.2.1 = h1.2.1 - h.2.1 + 6 by omega]
        exact t5
      · show t.heap[h1.1 + 1 - 1]? = _
        rw [Nat.add_sub_cancel, ← hs1]
        exact t7
    obtain ⟨t, a1, o, b1, b2, b3⟩ := hW s₁ hh0 (Stand.of_body B)
    exact ⟨t, o, a1, b1, b2, b3⟩
end TH4
