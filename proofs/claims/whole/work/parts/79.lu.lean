section LM0
/-- a table of one entry, its class linked or not yet: the search finds it -/
theorem lm_find {e : Env} {u : State} {f : JFrame} {a : Addr} {mt : Method} {cd : Code} {x : ExceptionTableEntry} {k : ClassId} {cell : Cell} (hm : u.vm.method? f.method = some mt) (hc : mt.code = some cd) (h1 : cd.exceptionTable.toList = [x]) (hx : covers x f.pc = true) (h0 : x.catchType ≠ 0) (hl : u.vm.ClassLinks e.platform f.method.cls x.catchType k) (hcell : u.heap[a]? = some cell) (hob : cell.vm.isStatics = false) (hk : ∃ q, u.vm.classes[k]? = some q) (hfit : u.vm.assignable cell.cls k = true) (Q : Handler → Pre) (E : CtlPost) (d : Bool) (acts : List Action) :
    wp (findHandler f a) Q E e d acts u ↔ Q (.found x.handlerPc) d acts (u.setVm (u.vm.noted f.method.cls x.catchType (.cls k))) := by
  obtain ⟨ha, ht⟩ := (resolveClass_links e.toSetting hl).op (op := VmOp.resolveClass f.method.cls x.catchType) rfl
  have hal : u.vm.Alike (u.vm.noted f.method.cls x.catchType (.cls k)) := (Vm.Alike.refl u.vm).noted _ _ _
  obtain ⟨q1, hq1⟩ := Vm.classAt_of_assignable hfit hk
  obtain ⟨q2, hq2⟩ := hk
  obtain ⟨r1, hr1, -⟩ := hal.2.2 _ _ hq1
  obtain ⟨r2, hr2, -⟩ := hal.2.2 _ _ hq2
  have hf2 : (u.vm.noted f.method.cls x.catchType (.cls k)).assignable cell.cls k = true := by rw [hal.assignable]; exact hfit
  have hob2 := VmData.ne_statics_of hob
  simp only [covers] at hx
  rw [W.findHandler_eq hm hc, h1]
  simp [findHandler.go, hx, h0, ha, ht, hcell, hob2, hr1, hr2, hf2, VmOp.dirties, VmOp.acts]
variable {p : Program} {l : Launch} {e : Env} {R : Room} {s : State} {m : MethodId} {args : Array Value} {below : List Frame} {meth : Method} {c : Code} {T : State} {locs : List Loc} {cells slots : Nat}
/-- a throw that lies over the frame is caught there -/
theorem lm_caught (X : Stand p l e R s m args below meth c T locs cells slots) (a : Addr) {g : JFrame} (hg : g.method = m) {own nm : String} (hown : s.vm.findClass own = some m.cls) {x : ExceptionTableEntry} (h1 : c.exceptionTable.toList = [x]) (hx : covers x g.pc = true) (h0 : x.catchType ≠ 0) (hlink : (Cond.classLink own x.catchType nm).before args s = true) {cT : ClassId} {cell : Cell} (hcT : s.vm.findClass nm = some cT) (hcell : T.heap[a]? = some cell) (hob : cell.vm.isStatics = false) (hfit : s.vm.assignable cell.cls cT = true) :
    ∃ vm', Stand p l e R s m args below meth c (T.setVm vm') locs cells slots ∧ ∀ target, Steps p.tables e below ((T.setVm vm').setTop { g with pc := x.handlerPc, stack := [.ref a] }) target → Steps p.tables e below ((T.setTop g).pushFrame (.throwing a)) target := by
  subst hg
  obtain ⟨c', hc', hcl⟩ := Cond.classLink_spec hown hlink e.platform (by rw [X.admits.platform])
  cases hcT.symm.trans hc'
  obtain ⟨dk, _, _, kt, hd, _, _, _, _, hkt, _, hopen⟩ := hcl.here
  have hal := X.warmed.alike
  obtain ⟨kt', hkt', -⟩ := hal.2.2 _ _ hkt
  have hfind := fun Q E d acts => lm_find (e := e) (u := (T.setTop g).pushFrame (.throwing a)) (f := g) (a := a) (mt := meth) (cd := c) X.method' X.code h1 hx h0 (X.warmed.classLinks hcl) hcell hob ⟨kt', hkt'⟩ (show T.vm.assignable cell.cls cT = true by rw [hal.assignable]; exact hfit) Q E d acts
  refine ⟨T.vm.noted g.method.cls x.catchType (.cls cT), X.noted (X.warmed.noted hd hopen (State.rightAt_cls hcl)), fun target hrest => ?_⟩
  obtain ⟨hgo, hw⟩ := X.here.throwing a
  refine Steps.head hgo hw ?_
  obtain ⟨g₀, hr⟩ := X.frames_eq
  have hfr : ((T.setTop g).pushFrame (.throwing a)).frames = .throwing a :: .java g :: below := by
    rw [frames_entered X.here.top, hr]
    rfl
  rw [stepThread_throwing hfr]
  have hst : (stepThrowing e ((T.setTop g).pushFrame (.throwing a)) a (.java g :: below)).Is ((((T.setTop g).pushFrame (.throwing a)).setVm (T.vm.noted g.method.cls x.catchType (.cls cT))).setFrames (.java { g with pc := x.handlerPc, stack := [.ref a] } :: below)) [] := by
    simp only [stepThrowing, searchFrame, vmDo]
    generalize hz : Sem.go _ e false [] ((T.setTop g).pushFrame (.throwing a)) = res
    obtain ⟨as, rfl, hb⟩ := Sem.eq_ok_of hz (a := Handler.found x.handlerPc) (s' := ((T.setTop g).pushFrame (.throwing a)).setVm (T.vm.noted g.method.cls x.catchType (.cls cT))) (acts' := []) (by simp [hfind _ _ _ _]; rfl)
    exact ⟨rfl, hb⟩
  rw [hst.1]
  have hr' : (T.setVm (T.vm.noted g.method.cls x.catchType (.cls cT))).frames = .java g₀ :: below := hr
  rw [State.setTop_of_frames _ hr'] at hrest
  rw [State.pushFrame, State.setTop_of_frames _ hr]
  have e1 : ∀ (u : State) (v : Vm) (fs gs : List Frame), ((u.setFrames fs).setVm v).setFrames gs = (u.setVm v).setFrames gs := fun u v fs gs => State.setFrames_setFrames (u.setVm v) fs gs
  rw [e1, e1]
  exact hrest
end LM0
