section LM1
variable {l : Launch} {F : gx_F} {d : Nat} {h h' : gx_H} {a o : Nat}
def lm_Rm (d : Nat) (h h' : gx_H) : Room := { frames := d, cells := h'.1 - h.1, slots := h'.2.1 - h.2.1, locals := 40 * d }
def lm_Met (l : Launch) (F : gx_F) (d : Nat) (As : List Value) (h : gx_H) (v : Option Value) (h' : gx_H) : Prop :=
  h.1 ≤ h'.1 ∧ h.2.1 ≤ h'.2.1 ∧ Met l lm_N (lm_W :: gx_Ts) (lm_Rm d h h') (fun a U => a = As.toArray ∧ gx_E F U ∧ gx_R F h U.heap) (fun _ _ o t => o = .returned v ∧ gx_R F h' t.heap) (h'.1 - h.1) (h'.2.1 - h.2.1) (fun q => F.2.2.1 ≤ q)
def lm_K (l : Launch) (F : gx_F) (v : Int32) (h' : gx_H) (p : Program) (e : Env) (R : Room) (s : State) (m : MethodId) (args : Array Value) (below : List Frame) (meth : Method) (c : Code) (cE sE : Nat) (Q : State → Prop) : Prop :=
  ∀ (pc' : Nat) (st' : List Value) (ls' : Array Slot) (H' : Heap) (locs' : List Loc), gx_X m_Law_module (.inl (some (.int v))) pc' st' → gx_R F h' H' → (∀ q ∈ locs', F.2.2.1 ≤ q.base) → ls'.size = 3 → W p l e R s m args below meth c H' locs' cE sE Q (F0 m pc' ls' st')
theorem lm_meth {v : Int32} (h1 : h.1 ≤ h'.1) (h2 : h.2.1 ≤ h'.2.1)
    (body : ∀ (p : Program) (e : Env) (s : State) (m : MethodId) (below : List Frame) (meth : Method) (c : Code) (Q : State → Prop) (ls : Array Slot) (x : ExceptionTableEntry), gx_In F m_Law_module p s m #[.ref a, .ref o] meth c → gx_R F h s.heap → gx_L ls 3 [some (.ref a), some (.ref o), none] → c.exceptionTable.toList = [x] → (x.startPc = 0 ∧ x.endPc = 8 ∧ x.handlerPc = 11 ∧ x.catchType = 13) →
      lm_K l F v h' p e (lm_Rm d h h') s m #[.ref a, .ref o] below meth c (h'.1 - h.1) (h'.2.1 - h.2.1) Q → W p l e (lm_Rm d h h') s m #[.ref a, .ref o] below meth c s.heap [] 0 0 Q (F0 m 0 ls [])) : lm_Met l F d [.ref a, .ref o] h (some (.int v)) h' := by
  refine ⟨h1, h2, va_MetW (cc := method_3_code) (maxL := 3) (ret := some .int) (hh := [(0, 8, 11, 13)]) (by decide +kernel) rfl ?_⟩
  intro p e s m args below meth c s₁ B hml hP
  obtain ⟨rfl, hE, hR⟩ := hP
  have hts := atoms_spec (ws := lm_W :: gx_Ts) B.pre
  have hlocks : meth.locks = false := B.notSynchronized
  have hI : gx_In F m_Law_module p s m #[.ref a, .ref o] meth c := ⟨B.exec, B.bytes, hml, B.returns, hlocks, findClass_of_methodNamed B.named, fun w hw => hts w (List.mem_cons_of_mem _ hw), hE, fun hi => by rw [(name_of_methodNamed B.named B.method).1]; exact hi⟩
  obtain ⟨m9, meth9, c9, n1, n2, n3, -, -, n4, -⟩ := Cond.codeWith_spec (show lm_W.holds _ _ _ _ _ = true from hts lm_W List.mem_cons_self)
  cases B.named.symm.trans n1
  cases B.method.symm.trans n2
  cases n3.symm.trans (Stand.of_body B).code
  obtain ⟨x, hx1, hx2⟩ : ∃ x, c.exceptionTable.toList = [x] ∧ (x.startPc = 0 ∧ x.endPc = 8 ∧ x.handlerPc = 11 ∧ x.catchType = 13) := by
    cases hq : c.exceptionTable.toList with
    | nil =>
      rw [hq] at n4
      cases n4
    | cons x t =>
      rw [hq] at n4
      cases t with
      | nil => exact ⟨x, rfl, by simpa using n4⟩
      | cons y t => simp at n4
  have hl := lv_entry (n := 3) [Value.ref a, Value.ref o] (Nat.le_of_ble_eq_true rfl)
  have hgo := body p e s m below meth c
  show W p l e (lm_Rm d h h') s m [Value.ref a, Value.ref o].toArray below meth c s.heap [] 0 0 _ (entryFrame m [Value.ref a, Value.ref o].toArray 3)
  rw [lg_entry_eq]
  generalize (lg_sl [Value.ref a, Value.ref o] ++ List.replicate (3 - (lg_sl [Value.ref a, Value.ref o]).length) Slot.unset).toArray = ls at hl ⊢
  have hLs : gx_L ls 3 [some (.ref a), some (.ref o), none] := gx_L.of hl fun i w hi => by
    match i, hi with
    | 0, hi =>
      cases hi
      exact List.mem_cons_self
    | 1, hi =>
      cases hi
      exact List.mem_cons_of_mem _ List.mem_cons_self
    | 2, hi => cases hi
    | i + 3, hi => cases hi
  refine hgo _ ls x hI hR hLs hx1 hx2 ?_
  intro pc' st' ls' H' locs' hX hR' hlo' hsz
  obtain ⟨hdec, hnar, hst⟩ := hX
  subst hst
  exact W.iret B.exec B.bytes B.returns (fun t ht _ => ⟨rfl, by rw [ht]; exact hR'⟩) hlo' hdec hlocks
theorem lm_0 {x y : Nat} (h : y ≤ x) : 0 + x = x - y + y := by omega
theorem lm_vp : vp_in 0 1 := by
  unfold vp_in
  decide
/-- the call comes back -/
theorem lm_norm {b : Int32} {h1 : gx_H} {fs : List Value} {f : Nat → Int64} (hm : gx_Met l F d m_H_module [.ref a] h (some (.int b)) h1) (hob : h.2.2 a = some (.inr (0, fs))) (ho : h1.2.2 o = some (.inl (1, 1, .inr (.inl f)))) :
    lm_Met l F (d + 1) [.ref a, .ref o] h (some (.int 0)) (gx_set h1 o (.inl (1, 1, .inr (.inl (vp_updL f 0 b.toInt64))))) := by
  have hgo : gx_Go l F (d + 1) m_Law_module 0 [some (.ref a), some (.ref o), none] [] h (fun r => r = (.inl (some (.int 0)), gx_set h1 o (.inl (1, 1, .inr (.inl (vp_updL f 0 b.toInt64)))))) := by
    refine gx_p k_Law_module rfl rfl ?_
    refine gx_p k_Law_module rfl rfl ?_
    refine gx_p k_Law_module rfl rfl ?_
    refine gx_iv (M' := m_H_module) (Pm := fun v h' => v = some (.int b) ∧ h' = h1) (As := []) (b := a) (rest := [.int 0, .ref o]) (r := gx_c0) k_Law_module rfl rfl rfl rfl rfl hob rfl rfl (Nat.le_of_ble_eq_true rfl) ⟨_, _, hm, rfl, rfl⟩ ?_
    rintro v h' - ⟨rfl, rfl⟩
    refine gx_p k_Law_module rfl rfl ?_
    refine gx_ls1 (x := 0) k_Law_module rfl rfl rfl ho lm_vp ?_
    refine gx_j k_Law_module rfl rfl ?_
    refine gx_p k_Law_module rfl rfl ?_
    exact gx_ret (v := some (.int 0)) k_Law_module rfl rfl trivial rfl rfl
  obtain ⟨r, ⟨g1, g2, g0, gr⟩, hr⟩ := hgo
  subst hr
  exact lm_meth g1 g2 fun p e s m below meth c Q ls x hI hR hL hx1 hx2 hk => gr p e _ s m _ below meth c s.heap [] 0 0 _ _ Q ls hI hR hL (fun q hq => by cases hq) (Nat.le_refl _) (Nat.le_refl _) (lm_0 g1) (lm_0 g2) (Nat.le_refl _) (Nat.le_refl _) hk
theorem hl0 : decode method_3_code 0 = .ok (.aload_n 1, 1) := by decide +kernel
theorem hl1 : decode method_3_code 1 = .ok (.iconst 0, 1) := by decide +kernel
theorem hl2 : decode method_3_code 2 = .ok (.aload_n 0, 1) := by decide +kernel
theorem hl3 : decode method_3_code 3 = .ok (.invokevirtual 7, 3) := by decide +kernel
/-- the call throws, and the law's method catches -/
theorem lm_thr {fs : List Value} (g1 : h.1 ≤ h'.1) (g2 : h.2.1 ≤ h'.2.1) (hm : th_M l F d a h h') (hob : h.2.2 a = some (.inr (0, fs))) : lm_Met l F (d + 1) [.ref a, .ref o] h (some (.int 1)) h' := by
  refine lm_meth g1 g2 ?_
  intro p e s m below meth c Q ls x hI hR hL hx1 hx2 hk
  have hI0 := hI
  obtain ⟨i1, i2, i3, i4, i5, i6, i7, i8, i9⟩ := hI
  refine lv_aload_n i1 i2 hl0 rfl (hL.2.2 1 _ rfl) ?_
  refine lv_iconst (v := 0) i1 i2 hl1 rfl ?_
  refine lv_aload_n i1 i2 hl2 rfl (hL.2.2 0 _ rfl) ?_
  intro T hT X
  obtain ⟨cellB, hcB, hoB, hclB⟩ := va_recv i8.1 (gx_P1 hR hob) (show gx_cl[0]? = some gx_c0 from rfl) (q0 := 0) rfl
  obtain ⟨mk, methM, hnamed, hmethM, hstM, habM⟩ := Cond.instanceMethod_spec (i7 _ wt_511)
  obtain ⟨methM', cM, hmethM', hcodeM, -, hlocM, -, -, -, hsigM⟩ := Cond.code_spec hnamed (i7 _ wt_513)
  cases hmethM.symm.trans hmethM'
  obtain ⟨c2, r2, m2, q1, q2, q3, q4, kP, hkP, hkPi⟩ := Cond.selects_spec (i7 _ wt_512)
  cases hclB.symm.trans q1
  cases (State.methodFound?_of_named hnamed ne_H).symm.trans q2
  cases hnamed.symm.trans q3
  have hselP : selectMethod e.platform s.vm cellB.cls mk = .method mk := by rw [Launch.admits_selectMethod X.admits]; exact q4
  have hlen : ([] : List Value).length = methM.sig.parameters.length := by
    have h8 : (parseMethodDescriptor m_H_module.1.1.desc).map (fun d => d.parameters.length) = some 0 := cb_H_module.2.2.2.1
    have h9 : parseMethodDescriptor m_H_module.1.1.desc = some methM.sig := hsigM
    rw [h9] at h8
    exact (Option.some.inj h8).symm
  obtain ⟨vm₁, X₁, hstep₁⟩ := X.invokevirtual i1 i6 (i7 _ wt_510) hnamed hmethM hstM hkP hkPi ne_H (a := a) (cell := cellB) (by rw [hT]; exact hcB) (VmData.ne_statics_of hoB) hselP hmethM habM hkP hkPi (g := F0 m 3 ls [.ref a, .int 0, .ref o]) rfl (argsL := []) (rest := [.int 0, .ref o]) hlen rfl (by rw [i2]; exact hl3)
  generalize hg : ({ F0 m 3 ls [.ref a, .int 0, .ref o] with stack := [.int 0, .ref o] } : JFrame) = g at hstep₁
  have hgm : g.method = m := by rw [← hg]
  have hgp : g.pc = 3 := by rw [← hg]
  have hinitP : kP.init = .initialized := Cond.initialized_spec (findClass_of_methodNamed hnamed) hkP (i7 _ cb_H_module.2.1)
  obtain ⟨kP₁, hkP₁, heP₁⟩ := X₁.warmed.alike.2.2 _ _ hkP
  have hn₁ : (T.setVm vm₁).methodNamed? m_H_module.1.1 = some mk := X₁.named hnamed
  have hdg : decode c.code g.pc = .ok (.invokevirtual 7, 3) := by rw [i2, hgp]; exact hl3
  have hroom := X₁.room_calling (g := g) (m' := mk) (args' := #[.ref a]) (R' := { frames := d, cells := h'.1 - h.1, slots := h'.2.1 - h.2.1, locals := 40 * d }) (by rw [i3, ← hg]; exact hL.1) (show (T.setVm vm₁).vm.method? mk = some methM from (X₁.warmed.alike.method? mk).trans hmethM) hcodeM (Nat.le_refl _) (by rw [hlocM, ← hg]; show 2 * 0 + 2 + (3 + 11) + 40 * d ≤ 40 * (d + 1); omega) (by show 0 + _ ≤ _; rw [Nat.zero_add]; exact Nat.le_refl _) (by show 0 + _ ≤ _; rw [Nat.zero_add]; exact Nat.le_refl _)
  have happ : (headSpec (.code m_H_module.1.1 m_H_module.1.2.1 m_H_module.1.2.2.1 m_H_module.1.2.2.2.1 :: gx_Ts) { frames := d, cells := h'.1 - h.1, slots := h'.2.1 - h.2.1, locals := 40 * d }).appliesLoose m_H_module.1.1 e.platform ((T.setVm vm₁).calling g mk #[.ref a]) = true :=
    Spec.appliesLoose_calling (g := g) (by rw [hgm]; exact X₁.here) hdg hn₁ hkP₁ (by rw [heP₁]; exact hinitP) hroom (atoms_intro fun w hw => by
      have hw' : w ∈ gx_Ts := by
        rcases List.mem_cons.mp hw with rfl | hw
        · exact cb_H_module.1
        · exact hw
      exact word_at X₁.warmed (gx_Tsg w hw') (i7 w hw'))
  obtain ⟨g₀, hr⟩ := X₁.frames_eq
  have hfr0 : ((T.setVm vm₁).setTop g).frames = .java g :: below := by
    rw [State.frames_setTop' g X₁.here.top, hr]
    rfl
  obtain ⟨oo, s₂, hsteps, -, hend, hq⟩ := Steps.callFree hm p X₁.admits X₁.cas X₁.clock (acts := []) (mid := [.java g]) (below := below) hfr0 happ ⟨rfl, (i8.warm (U := T.setVm vm₁) X₁.warmed).call, by show gx_R F h T.heap; rw [hT]; exact hR⟩ trivial
  rw [hfr0] at hend
  obtain ⟨rfl, hW2, ⟨Lc, hsame, hLc⟩, hR2, ce, hce, hoce, hfce⟩ := hq
  obtain ⟨T', X', -, hs', ht⟩ := X₁.outOfThrown hgm hend hW2 hsame
  have hT'h : T'.heap = s₂.heap := by rw [ht]; rfl
  obtain ⟨cT0, cT, z1, z2, z3⟩ := Cond.castable_spec (va_Nw.use (A := #[.ref a, .ref o]) rfl (i8.2.1 n_7 nt_7))
  have hfce' : s.vm.findClass iaeN = some ce.cls := by
    have e1 : ((T.setVm vm₁).calling g mk #[.ref a]).vm = vm₁ := rfl
    have e2 := X₁.warmed.alike.findClass iaeN
    rw [← e2]
    exact hfce
  obtain ⟨vm', X2, hcat⟩ := lm_caught X' (h'.1 - 1) hgm (own := "SignalHouseLaw") (nm := iaeN) i6 hx1 (by rw [hgp]; simp [covers, hx2.1, hx2.2.1]) (by rw [hx2.2.2.2]; decide) (by rw [hx2.2.2.2]; exact i7 _ wt_509) hfce' (by rw [hT'h]; exact hce) hoce (by
    cases hfce'.symm.trans z1
    cases z1.symm.trans z2
    exact z3)
  have hgo2 : gx_Go l F (d + 1) m_Law_module 11 [some (.ref a), some (.ref o), none] [.ref (h'.1 - 1)] h' (fun r => r = (.inl (some (.int 1)), h')) := by
    refine gx_p k_Law_module rfl rfl ?_
    refine gx_p k_Law_module rfl rfl ?_
    exact gx_ret (v := some (.int 1)) k_Law_module rfl rfl trivial rfl rfl
  obtain ⟨r, ⟨-, -, -, gr⟩, hr0⟩ := hgo2
  subst hr0
  rw [Nat.zero_add, Nat.zero_add] at X2
  have hW := gr p e (lm_Rm (d + 1) h h') s m #[.ref a, .ref o] below meth c s₂.heap Lc (h'.1 - h.1) (h'.2.1 - h.2.1) _ _ Q ls hI0 hR2 hL hLc (Nat.le_refl _) (Nat.le_refl _) rfl rfl (Nat.le_refl _) (Nat.le_refl _) hk
  obtain ⟨t, a1, b1⟩ := hW (T'.setVm vm') hT'h X2
  have hfr1 : ({ g with pc := x.handlerPc, stack := [.ref (h'.1 - 1)] } : JFrame) = F0 m 11 ls [.ref (h'.1 - 1)] := by
    rw [← hg, hx2.2.2.1]
  refine ⟨t, hstep₁ t fun acts => ?_, b1⟩
  rw [doInvoke_state]
  refine hsteps.trans ?_
  rw [ht]
  refine hcat t ?_
  rw [hfr1]
  exact a1
/-- the law calls it -/
theorem lm_is {i : gx_I} {pc : Nat} {L : List (Option Value)} {rest : List Value} {v : Option Value} {P : gx_Z → Prop} (ha : gx_at m_Law_law.2 pc = some i) (hi : i.1 = .invokestatic 26) (hw : (rest.map fun v => v.category).sum ≤ 8)
    (hm : lm_Met l F d [.ref a, .ref o] h v h') (kk : gx_Go l F (d + 1) m_Law_law i.2.2.2.2.1 L (v.toList ++ rest) h' P) : gx_Go l F (d + 1) m_Law_law pc L (.ref o :: .ref a :: rest) h P := by
  obtain ⟨ins, len, c32, c64, nxt, tgt, aux, sgn⟩ := i
  dsimp only at hi kk
  subst hi
  obtain ⟨hdg, hnx⟩ := gx_dec k_Law_law ha rfl
  dsimp only [gx_len] at hdg hnx
  subst hnx
  obtain ⟨r, ⟨h1, h2, h0, hr⟩, hp⟩ := kk
  obtain ⟨m1, m2, hmm⟩ := hm
  refine ⟨r, ⟨Nat.le_trans m1 h1, Nat.le_trans m2 h2, h0, ?_⟩, hp⟩
  intro p e R s m args below meth c H locs cells slots cE sE Q ls hI hR hL hlo hd1 hd2 e1 e2 e3 e4 hret
  have hI0 := hI
  obtain ⟨i1, i2, i3, i4, i5, i6, i7, i8, i9⟩ := hI
  intro T hT X
  have hlm : lm_W.before args s = true := va_Nw.use rfl i8.2.2.2.2.2.1
  have hK : Back l R p e below s args lm_N 3 8 (PreOf R (h'.1 - h.1) (h'.2.1 - h.2.1) (fun b U => b = [Value.ref a, Value.ref o].toArray ∧ gx_E F U ∧ gx_R F h U.heap)) (PostOf (fun _ _ o t => o = .returned v ∧ gx_R F h' t.heap) (h'.1 - h.1) (h'.2.1 - h.2.1) (fun q => F.2.2.1 ≤ q)) :=
    va_backW (hh := [(0, 8, 11, 13)]) (bytes := method_3_code) (maxL := 3) (ret := some .int) hmm gx_blind rfl rfl hd1 (by show 8 + (3 + 11) + 40 * d ≤ R.locals; omega) (fun w hw a' U hW => by
      rcases List.mem_cons.mp hw with rfl | hw
      · exact word_at hW (Or.inl lm_g) hlm
      · exact word_at hW (gx_Tsg w hw) (i7 w hw)) List.mem_cons_self (fun a' U hW => word_at hW (gx_Tsg _ wt_113) (i7 _ wt_113))
  obtain ⟨mk, methM, cM, hnamed, hmethM, -, -, -, -, -, -, hsigM⟩ := Cond.codeWith_spec (show lm_W.holds _ _ _ _ _ = true from hlm)
  have hstatic : methM.isStatic = true := Cond.static_spec hnamed hmethM (i7 _ wt_508)
  obtain ⟨kP, hkP, -⟩ := className_of_methodNamed hnamed
  have hinitP : kP.init = .initialized := Cond.initialized_spec (findClass_of_methodNamed hnamed) hkP (i7 _ wt_113)
  have hlen : [Value.ref a, Value.ref o].length = methM.sig.parameters.length := by
    have h8 : (parseMethodDescriptor lm_N.desc).map (fun d => d.parameters.length) = some 2 := by decide +kernel
    rw [hsigM] at h8
    exact (Option.some.inj h8).symm
  obtain ⟨vm₁, X₁, hstep₁⟩ := X.invokestatic i1 i6 (i7 _ wt_507) hnamed hmethM hstatic hkP hinitP ⟨by decide, by decide⟩ (g := F0 m pc ls (.ref o :: .ref a :: rest)) rfl (argsL := [.ref a, .ref o]) (rest := rest) hlen rfl (by rw [i2]; exact hdg)
  obtain ⟨v', ⟨U', l2, c2, s2⟩, X', ⟨g', mk', t, Lc, q1, q2, ⟨q3, q4⟩, q5, q6, q7, q8⟩, hsteps⟩ := hK m meth c ⟨T.setVm vm₁, locs, cells, slots⟩ ({ F0 m pc ls (.ref o :: .ref a :: rest) with stack := rest } : JFrame) (.invokestatic 26) mk #[.ref a, .ref o] X₁ rfl (by rw [i3]; exact hL.1) (by rw [i2]; exact hdg) (by show 2 * 0 + (rest.map fun v => v.category).sum ≤ 8; omega) (X₁.named hnamed) ⟨by show cells + _ ≤ _; omega, by show slots + _ ≤ _; omega, rfl, i8.warm (U := T.setVm vm₁) X₁.warmed, by show gx_R F h T.heap; rw [hT]; exact hR⟩
  dsimp only [Pt.U, Pt.locs, Pt.cells, Pt.slots] at X' q1 q2 q5 q7 q8 hsteps
  subst q5
  subst q7
  subst q8
  cases q3
  obtain ⟨t2, a1, b1⟩ := hr p e R s m args below meth c U'.heap (locs ++ Lc) (cells + (h'.1 - h.1)) (slots + (h'.2.1 - h.2.1)) cE sE Q ls hI0 (by rw [q1]; exact q4) hL (fun q hq => by
      rcases List.mem_append.mp hq with h3 | h3
      · exact hlo q h3
      · exact q6 q h3) hd1 hd2 (by omega) (by omega) e3 e4 hret U' rfl X'
  exact ⟨t2, hstep₁ _ fun acts => by rw [doInvoke_state]; exact hsteps.trans a1, b1⟩
end LM1
