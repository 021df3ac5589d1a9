/-! CONTRACTS: what a method answers and leaves, at a depth -/
def gx_Met (l : Launch) (F : gx_F) (d : Nat) (M : gx_M) (As : List Value) (h : gx_H) (v : Option Value) (h' : gx_H) : Prop :=
  h.1 ≤ h'.1 ∧ h.2.1 ≤ h'.2.1 ∧ gx_nar M.1.2.2.2.1 v ∧ Met l M.1.1 (.code M.1.1 M.1.2.1 M.1.2.2.1 M.1.2.2.2.1 :: gx_Ts) ({ frames := d, cells := h'.1 - h.1, slots := h'.2.1 - h.2.1, locals := 40 * d })
    (fun a U => a = As.toArray ∧ gx_E F U ∧ gx_R F h U.heap) (fun _ _ o t => o = .returned v ∧ gx_R F h' t.heap) (h'.1 - h.1) (h'.2.1 - h.2.1) (fun q => F.2.2.1 ≤ q)
def gx_Has (l : Launch) (F : gx_F) (d : Nat) (M : gx_M) (As : List Value) (h : gx_H) (P : Option Value → gx_H → Prop) : Prop := ∃ v h', gx_Met l F d M As h v h' ∧ P v h'
def gx_ent : List Value → List (Option Value)
  | [] => []
  | v :: vs => match v with
    | .long x => some (.long x) :: none :: gx_ent vs
    | .double x => some (.double x) :: none :: gx_ent vs
    | w => some w :: gx_ent vs
theorem gx_ent_at : ∀ (vs : List Value) (o i : Nat) (v : Value), (gx_ent vs)[i]? = some (some v) → (o + i, v) ∈ lv_args o vs
  | [], o, i, v, hv => by simp [gx_ent] at hv
  | w :: vs, o, i, v, hv => by
    have two : ∀ (hc : w.category = 2) (hv : (some w :: none :: gx_ent vs)[i]? = some (some v)), (o + i, v) ∈ lv_args o (w :: vs) := by
      intro hc hv
      match i, hv with
      | 0, hv =>
        cases hv
        exact List.mem_cons_self
      | 1, hv => cases hv
      | j + 2, hv =>
        refine List.mem_cons_of_mem _ ?_
        rw [if_pos hc]
        have h1 := gx_ent_at vs (o + 2) j v hv
        rw [show o + (j + 2) = o + 2 + j by omega]
        exact h1
    have one : ∀ (hc : w.category = 1) (hv : (some w :: gx_ent vs)[i]? = some (some v)), (o + i, v) ∈ lv_args o (w :: vs) := by
      intro hc hv
      match i, hv with
      | 0, hv =>
        cases hv
        exact List.mem_cons_self
      | j + 1, hv =>
        refine List.mem_cons_of_mem _ ?_
        rw [if_neg (by omega)]
        have h1 := gx_ent_at vs (o + 1) j v hv
        rw [show o + (j + 1) = o + 1 + j by omega]
        exact h1
    cases w with
    | long x => exact two rfl hv
    | double x => exact two rfl hv
    | int x => exact one rfl hv
    | float x => exact one rfl hv
    | ref x => exact one rfl hv
    | null => exact one rfl hv
    | _ => exact one rfl hv
theorem gx_good (M : gx_M) (h1 : Cond.code M.1.1 M.1.2.1 M.1.2.2.1 M.1.2.2.2.1 ∈ gx_Ts) : GoodIn gx_Ts (.code M.1.1 M.1.2.1 M.1.2.2.1 M.1.2.2.2.1 :: gx_Ts) := by
  intro w hw
  rcases List.mem_cons.mp hw with rfl | hw
  · exact ⟨h1, gx_Tsg _ h1⟩
  · exact ⟨hw, gx_Tsg _ hw⟩
section GX4
variable {l : Launch} {F : gx_F} {d : Nat} {M M' : gx_M} {pc : Nat} {L : List (Option Value)} {st : List Value} {h : gx_H} {P : gx_Z → Prop} {Pm : Option Value → gx_H → Prop}
/-- a method's contract out of its run -/
theorem gx_meth {As : List Value} {k : Nat} (hpl : plainName M.1.1.cls = true) (hL : gx_ent As ++ List.replicate k none = L) (hn : (lg_sl As).length ≤ M.1.2.2.1) (hgo : gx_Go l F d M 0 L [] h (fun r => ∃ v, r.1 = .inl v ∧ Pm v r.2)) : gx_Has l F d M As h Pm := by
  obtain ⟨⟨r1, h'⟩, ⟨h1, h2, h0, hr⟩, v, hv, hp⟩ := hgo
  dsimp only at h1 h2 h0 hr hv hp
  subst hv
  refine ⟨v, h', ⟨h1, h2, h0 v rfl, ?_⟩, hp⟩
  refine Met.ofW (cc := M.1.2.1) (maxL := M.1.2.2.1) (ret := M.1.2.2.2.1) hpl rfl ?_
  intro p e s m args below meth c s₁ B hml hv'
  obtain ⟨rfl, hE, hR⟩ := hv'
  have hts := atoms_spec (ws := .code M.1.1 M.1.2.1 M.1.2.2.1 M.1.2.2.2.1 :: gx_Ts) B.pre
  have hlocks : meth.locks = false := B.notSynchronized
  have hI : gx_In F M p s m As.toArray meth c := ⟨B.exec, B.bytes, hml, B.returns, hlocks, findClass_of_methodNamed B.named, fun w hw => hts w (List.mem_cons_of_mem _ hw), hE, fun hi => by rw [(name_of_methodNamed B.named B.method).1]; exact hi⟩
  have hl := lv_entry As hn
  rw [lg_entry_eq]
  generalize (lg_sl As ++ List.replicate (M.1.2.2.1 - (lg_sl As).length) Slot.unset).toArray = ls at hl ⊢
  have hLs : gx_L ls M.1.2.2.1 L := gx_L.of hl fun i w hi => by
    rw [← hL] at hi
    have h3 : (gx_ent As)[i]? = some (some w) := by
      by_cases hlt : i < (gx_ent As).length
      · rw [List.getElem?_append_left hlt] at hi
        exact hi
      · rw [List.getElem?_append_right (by omega)] at hi
        have h5 := List.mem_of_getElem? hi
        rw [List.mem_replicate] at h5
        cases h5.2
    have h4 := gx_ent_at As 0 i w h3
    rw [Nat.zero_add] at h4
    exact h4
  refine hr p e _ s m As.toArray below meth c s.heap [] 0 0 (h'.1 - h.1) (h'.2.1 - h.2.1) _ ls hI hR hLs (fun q hq => by cases hq) (Nat.le_refl d) (Nat.le_refl _) (by omega) (by omega) (Nat.le_refl _) (Nat.le_refl _) ?_
  intro pc' st' ls' H' locs' hX hR' hlo' hsz
  obtain ⟨hdec, hnar, hst⟩ := hX
  subst hst
  have hend : ∀ t : State, t.heap = H' → s.WarmedH t.vm → (fun (_ : Array Value) (_ : State) (o : Outcome) (t : State) => o = .returned v ∧ gx_R F h' t.heap) As.toArray s (.returned v) t := fun t ht _ => ⟨rfl, by rw [ht]; exact hR'⟩
  have hret : meth.sig.returnType = M.1.2.2.2.1 := B.returns
  generalize M.1.2.2.2.1 = rt at hdec hnar hret
  unfold gx_nar at hnar
  split at hnar
  · exact W.vret B.exec B.bytes hret hend hlo' hdec hlocks
  · exact W.lret B.exec B.bytes hret hend hlo' hdec hlocks
  · exact W.aret B.exec B.bytes hret (Or.inl ⟨_, rfl⟩) (Or.inl rfl) hend hlo' hdec hlocks
  · exact W.aret B.exec B.bytes hret (Or.inl ⟨_, rfl⟩) (Or.inr ⟨_, rfl⟩) hend hlo' hdec hlocks
  · exact W.aret B.exec B.bytes hret (Or.inr ⟨_, rfl⟩) (Or.inl rfl) hend hlo' hdec hlocks
  · exact W.aret B.exec B.bytes hret (Or.inr ⟨_, rfl⟩) (Or.inr ⟨_, rfl⟩) hend hlo' hdec hlocks
  · exact W.iret B.exec B.bytes hret hend hlo' hdec hlocks
  · exact W.zret B.exec B.bytes hret (by rcases hnar with rfl | rfl <;> rfl) hend hlo' hdec hlocks
  · exact hnar.elim
/-- a call, from the kit's run of it -/
theorem gx_call {As rest : List Value} {v : Option Value} {h' : gx_H} (hm : gx_Met l F d M' As h v h')
    (hrun : ∀ (p : Program) (e : Env) (R : Room) (s : State) (m : MethodId) (args : Array Value) (below : List Frame) (meth : Method) (c : Code) (H : Heap) (locs : List Loc) (cells slots : Nat) (ls : Array Slot),
      gx_In F M p s m args meth c → gx_R F h H → ls.size = M.1.2.2.1 → d + 1 ≤ R.frames → 40 * (d + 1) ≤ R.locals → (cells + (h'.1 - h.1) ≤ R.cells ∧ slots + (h'.2.1 - h.2.1) ≤ R.slots) →
      va_Run p l e R s m args below meth c H locs cells slots (h'.1 - h.1) (h'.2.1 - h.2.1) (F0 m pc ls st) rest ((fun (_ : Array Value) (_ : State) (o : Outcome) (t : State) => o = .returned v ∧ gx_R F h' t.heap) As.toArray) (fun q => F.2.2.1 ≤ q))
    (k : gx_Go l F (d + 1) M (pc + 3) L (v.toList ++ rest) h' P) : gx_Go l F (d + 1) M pc L st h P := by
  obtain ⟨r, ⟨h1, h2, h0, hr⟩, hp⟩ := k
  obtain ⟨m1, m2, -⟩ := hm
  refine ⟨r, ⟨Nat.le_trans m1 h1, Nat.le_trans m2 h2, h0, ?_⟩, hp⟩
  intro p e R s m args below meth c H locs cells slots cE sE Q ls hI hR hL hlo hd1 hd2 e1 e2 e3 e4 hret
  have hv := hrun p e R s m args below meth c H locs cells slots ls hI hR hL.1 hd1 hd2 ⟨by omega, by omega⟩
  intro T hT X
  obtain ⟨v', st₀, t, T', Lc, g0, X', hL', g1, g2, ⟨hq1, hq3⟩, hgo⟩ := hv T hT X
  cases hq1
  obtain ⟨t2, a1, b1⟩ := hr p e R s m args below meth c T'.heap (locs ++ Lc) (cells + (h'.1 - h.1)) (slots + (h'.2.1 - h.2.1)) cE sE Q ls hI (by rw [g1]; exact hq3) hL (fun q hq => by
      rcases List.mem_append.mp hq with h3 | h3
      · exact hlo q h3
      · exact hL' q h3) hd1 hd2 (by omega) (by omega) e3 e4 hret T' rfl X'
  exact ⟨t2, hgo t2 a1, b1⟩
theorem gx_blind {As : List Value} : FrameBlind (fun (a : Array Value) (U : State) => a = As.toArray ∧ gx_E F U ∧ gx_R F h U.heap) := fun a U g mk q => ⟨q.1, q.2.1.call, q.2.2⟩
/-- a callee's run: any kind of call -/
theorem gx_pre {As : List Value} {s : State} {H : Heap} (hE : gx_E F s) (hR : gx_R F h H) : PreS s H (fun (a : Array Value) (U : State) => a = As.toArray ∧ gx_E F U ∧ gx_R F h U.heap) As := ⟨gx_blind, fun U hU hW => ⟨rfl, hE.warm hW, by rw [hU]; exact hR⟩⟩
/-- invokevirtual -/
theorem gx_iv {i : gx_I} {idx b ci : Nat} {fs As rest : List Value} {r : vw_C} (hM : gx_ok M) (ha : gx_at M.2 pc = some i) (hi : i.1 = .invokevirtual idx) (hy : i.2.2.2.2.2.2.2 = M'.1) (hn : As.length = M'.1.2.2.2.2) (hs : st = As.reverse ++ .ref b :: rest) (hob : h.2.2 b = some (.inr (ci, fs))) (hcr : gx_cl[ci]? = some r) (hcn : M'.1.1.cls = r.1) (hw : (rest.map fun v => v.category).sum ≤ 8)
    (hm : gx_Has l F d M' (.ref b :: As) h Pm) (kk : ∀ v h', gx_nar M'.1.2.2.2.1 v → Pm v h' → gx_Go l F (d + 1) M i.2.2.2.2.1 L (v.toList ++ rest) h' P) : gx_Go l F (d + 1) M pc L st h P := by
  obtain ⟨v, h', hm, hpm⟩ := hm
  have hk := gx_oki_at hM ha
  obtain ⟨ins, len, c32, c64, nxt, tgt, aux, sgn⟩ := i
  dsimp only at hi hy kk
  subst hi
  subst hy
  obtain ⟨hdg, hnx⟩ := gx_dec hM ha rfl
  dsimp only [gx_len] at hdg hnx
  subst hnx
  obtain ⟨⟨w1, w2, w3, wd, w6⟩, hlb, w4, w5⟩ := (show gx_cV M idx M'.1 from hk)
  refine gx_call hm ?_ (kk v h' hm.2.2.1 hpm)
  intro p e R s m args below meth c H locs cells slots ls hI hR hsz hf1 hf2 hf3
  obtain ⟨hx1, hb, hml, hr, hlk, hown, hts, hE, hin⟩ := hI
  have hpv : PreV s H r.1 b (fun (a : Array Value) (U : State) => a = (Value.ref b :: As).toArray ∧ gx_E F U ∧ gx_R F h U.heap) As := ⟨gx_blind, va_recv hE.1 (gx_P1 hR hob) hcr (q0 := 0) rfl, fun U hU hW => ⟨rfl, hE.warm hW, by rw [hU]; exact hR⟩⟩
  have hgd := gx_good M' w1
  have hlen : ∀ sig, parseMethodDescriptor M'.1.1.desc = some sig → M'.1.2.2.2.2 = sig.parameters.length := fun sig h9 => by
    have h8 := wd
    rw [h9] at h8
    exact (Option.some.inj h8).symm
  rcases hlb with w | w
  · exact va_runV (C := r.1) (maxL := M'.1.2.2.1) (ret := M'.1.2.2.2.1) ⟨hx1, hb, hml, hown, hts⟩ hm.2.2.2 ⟨⟨rfl, rfl, hf1, by show 8 + (M'.1.2.2.1 + 11) + 40 * d ≤ R.locals; omega, pay_in hts hgd, List.mem_cons_self, hts _ (w1), hts _ (w2), w3, hlen, hts _ (w)⟩, hts _ (w4), by rw [← hcn]; exact hts _ (w5)⟩ hpv rfl hn hsz hs (lv_room hw) hdg hf3
  · exact va_runVN (C := r.1) (maxL := M'.1.2.2.1) (ret := M'.1.2.2.2.1) ⟨hx1, hb, hml, hown, hts⟩ hm.2.2.2 ⟨⟨⟨rfl, rfl, hf1, by show 8 + (M'.1.2.2.1 + 11) + 40 * d ≤ R.locals; omega, pay_in hts hgd, List.mem_cons_self⟩, hts _ (w1), hts _ (w2), w3, hlen, va_Nw.use rfl (hE.2.1 _ (w))⟩, hts _ (w4), by rw [← hcn]; exact hts _ (w5)⟩ hpv rfl hn hsz hs (lv_room hw) hdg hf3
/-- invokestatic -/
theorem gx_is {i : gx_I} {idx : Nat} {As rest : List Value} (hM : gx_ok M) (ha : gx_at M.2 pc = some i) (hi : i.1 = .invokestatic idx) (hx : i.2.2.2.2.2.2.1 = [2]) (hy : i.2.2.2.2.2.2.2 = M'.1) (hn : As.length = M'.1.2.2.2.2) (hs : st = As.reverse ++ rest) (hw : (rest.map fun v => v.category).sum ≤ 8)
    (hm : gx_Has l F d M' As h Pm) (kk : ∀ v h', gx_nar M'.1.2.2.2.1 v → Pm v h' → gx_Go l F (d + 1) M i.2.2.2.2.1 L (v.toList ++ rest) h' P) : gx_Go l F (d + 1) M pc L st h P := by
  obtain ⟨v, h', hm, hpm⟩ := hm
  have hk := gx_oki_at hM ha
  obtain ⟨ins, len, c32, c64, nxt, tgt, aux, sgn⟩ := i
  dsimp only at hi hx hy kk
  subst hi
  subst hx
  subst hy
  obtain ⟨hdg, hnx⟩ := gx_dec hM ha rfl
  dsimp only [gx_len] at hdg hnx
  subst hnx
  obtain ⟨⟨w1, w2, w3, wd, w6⟩, hlb, w4⟩ := (show gx_cS M idx [2] M'.1 from hk)
  refine gx_call hm ?_ (kk v h' hm.2.2.1 hpm)
  intro p e R s m args below meth c H locs cells slots ls hI hR hsz hf1 hf2 hf3
  obtain ⟨hx1, hb, hml, hr, hlk, hown, hts, hE, hin⟩ := hI
  have hgd := gx_good M' w1
  have hlen : ∀ sig, parseMethodDescriptor M'.1.1.desc = some sig → M'.1.2.2.2.2 = sig.parameters.length := fun sig h9 => by
    have h8 := wd
    rw [h9] at h8
    exact (Option.some.inj h8).symm
  rcases hlb with w | w
  · exact va_runS (maxL := M'.1.2.2.1) (ret := M'.1.2.2.2.1) ⟨hx1, hb, hml, hown, hts⟩ hm.2.2.2 ⟨⟨rfl, rfl, hf1, by show 8 + (M'.1.2.2.1 + 11) + 40 * d ≤ R.locals; omega, pay_in hts hgd, List.mem_cons_self, hts _ (w1), hts _ (w2), w3, hlen, hts _ (w)⟩, hts _ (w4)⟩ (gx_pre hE hR) rfl hn hsz hs (lv_room hw) hdg hf3
  · exact va_runSN (maxL := M'.1.2.2.1) (ret := M'.1.2.2.2.1) ⟨hx1, hb, hml, hown, hts⟩ hm.2.2.2 ⟨⟨⟨rfl, rfl, hf1, by show 8 + (M'.1.2.2.1 + 11) + 40 * d ≤ R.locals; omega, pay_in hts hgd, List.mem_cons_self⟩, hts _ (w1), hts _ (w2), w3, hlen, va_Nw.use rfl (hE.2.1 _ (w))⟩, hts _ (w4), trivial⟩ (gx_pre hE hR) rfl hn hsz hs (lv_room hw) hdg hf3
/-- invokespecial of a constructor -/
theorem gx_in {i : gx_I} {idx b : Nat} {As rest : List Value} (hM : gx_ok M) (ha : gx_at M.2 pc = some i) (hi : i.1 = .invokespecial idx) (hx : i.2.2.2.2.2.2.1 = [1]) (hy : i.2.2.2.2.2.2.2 = M'.1) (hn : As.length = M'.1.2.2.2.2) (hs : st = As.reverse ++ .ref b :: rest) (hw : (rest.map fun v => v.category).sum ≤ 8)
    (hm : gx_Has l F d M' (.ref b :: As) h Pm) (kk : ∀ h', Pm none h' → gx_Go l F (d + 1) M i.2.2.2.2.1 L rest h' P) : gx_Go l F (d + 1) M pc L st h P := by
  obtain ⟨v, h', hm, hpm⟩ := hm
  have hk := gx_oki_at hM ha
  obtain ⟨ins, len, c32, c64, nxt, tgt, aux, sgn⟩ := i
  dsimp only at hi hx hy kk
  subst hi
  subst hx
  subst hy
  obtain ⟨hdg, hnx⟩ := gx_dec hM ha rfl
  dsimp only [gx_len] at hdg hnx
  subst hnx
  obtain ⟨⟨w1, w2, w3, wd, w6⟩, hlb, w4, w5, hr0⟩ := (show gx_cI M idx [1] M'.1 from hk)
  have hv0 : v = none := by
    have h9 := hm.2.2.1
    rw [hr0] at h9
    cases v with
    | none => rfl
    | some x => exact h9.elim
  subst hv0
  refine gx_call hm ?_ (kk h' hpm)
  intro p e R s m args below meth c H locs cells slots ls hI hR hsz hf1 hf2 hf3
  obtain ⟨hx1, hb, hml, hr, hlk, hown, hts, hE, hin⟩ := hI
  have hgd : GoodIn gx_Ts (.code M'.1.1 M'.1.2.1 M'.1.2.2.1 M'.1.2.2.2.1 :: gx_Ts) := gx_good M' w1
  have hlen : ∀ sig, parseMethodDescriptor M'.1.1.desc = some sig → M'.1.2.2.2.2 = sig.parameters.length := fun sig h9 => by
    have h8 := wd
    rw [h9] at h8
    exact (Option.some.inj h8).symm
  have hmm := hm.2.2.2
  rw [hr0] at hmm hgd w1
  rcases hlb with w | w
  · exact va_runI (maxL := M'.1.2.2.1) ⟨hx1, hb, hml, hown, hts⟩ hmm ⟨⟨rfl, rfl, hf1, by show 8 + (M'.1.2.2.1 + 11) + 40 * d ≤ R.locals; omega, pay_in hts hgd, List.mem_cons_self, hts _ (w1), hts _ (w2), w3, hlen, hts _ (w)⟩, w5, hts _ (w4)⟩ (gx_pre hE hR) rfl hn hsz hs (lv_room hw) hdg hf3
  · exact va_runIN (maxL := M'.1.2.2.1) ⟨hx1, hb, hml, hown, hts⟩ hmm ⟨⟨⟨rfl, rfl, hf1, by show 8 + (M'.1.2.2.1 + 11) + 40 * d ≤ R.locals; omega, pay_in hts hgd, List.mem_cons_self⟩, hts _ (w1), hts _ (w2), w3, hlen, va_Nw.use rfl (hE.2.1 _ (w))⟩, w5, hts _ (w4)⟩ (gx_pre hE hR) rfl hn hsz hs (lv_room hw) hdg hf3
/-- Object's constructor -/
theorem gx_oi {i : gx_I} {idx b : Nat} (hM : gx_ok M) (ha : gx_at M.2 pc = some i) (hi : i.1 = .invokespecial idx) (hx : i.2.2.2.2.2.2.1 = [0]) (hw : (st.map fun v => v.category).sum ≤ 8) (kk : gx_Go l F (d + 1) M i.2.2.2.2.1 L st h P) : gx_Go l F (d + 1) M pc L (.ref b :: st) h P := by
  have hk := gx_oki_at hM ha
  obtain ⟨ins, len, c32, c64, nxt, tgt, aux, sgn⟩ := i
  dsimp only at hi hx kk
  subst hi
  subst hx
  obtain ⟨hdg, hnx⟩ := gx_dec hM ha rfl
  dsimp only [gx_len] at hdg hnx
  subst hnx
  obtain ⟨w1, w2, w3⟩ := (show gx_cI M idx [0] sgn from hk)
  obtain ⟨r, ⟨h1, h2, h0, hr⟩, hp⟩ := kk
  refine ⟨r, ⟨h1, h2, h0, ?_⟩, hp⟩
  intro p e R s m args below meth c H locs cells slots cE sE Q ls hI hR hL hlo hd1 hd2 e1 e2 e3 e4 hret
  have k1 := hr p e R s m args below meth c H locs cells slots cE sE Q ls hI hR hL hlo hd1 hd2 e1 e2 e3 e4 hret
  obtain ⟨hx1, hb, hml, hr9, hlk, hown, hts, hE, hin⟩ := hI
  exact W.objInit hx1 hb hown (hts _ (w1)) (hts _ (w2)) (hts _ (w3)) rfl (by rw [hml]; exact hL.1) rfl hdg (by omega) (by show 2 * 0 + _ + 12 ≤ _; omega) k1
/-- a long constant -/
theorem gx_l2w {i : gx_I} {idx : Nat} (hM : gx_ok M) (ha : gx_at M.2 pc = some i) (hi : i.1 = .ldc2_w idx) (kk : gx_Go l F d M i.2.2.2.2.1 L (.long i.2.2.2.1 :: st) h P) : gx_Go l F d M pc L st h P := by
  have hk := gx_oki_at hM ha
  obtain ⟨ins, len, c32, c64, nxt, tgt, aux, sgn⟩ := i
  dsimp only at hi kk
  subst hi
  obtain ⟨hdg, hnx⟩ := gx_dec hM ha rfl
  dsimp only [gx_len] at hdg hnx
  subst hnx
  refine gx_liftR ?_ kk
  intro p e R s m args below meth c H locs cells slots Q ls hI hR k1
  exact lv_ldc2 hI.1 hI.2.1 hI.2.2.2.2.2.1 (hI.2.2.2.2.2.2.1 _ hk) hdg k1
/-- an int constant of the pool -/
theorem gx_ldc {i : gx_I} {idx : Nat} (hM : gx_ok M) (ha : gx_at M.2 pc = some i) (hi : i.1 = .ldc idx) (kk : gx_Go l F d M i.2.2.2.2.1 L (.int i.2.2.1 :: st) h P) : gx_Go l F d M pc L st h P := by
  have hk := gx_oki_at hM ha
  obtain ⟨ins, len, c32, c64, nxt, tgt, aux, sgn⟩ := i
  dsimp only at hi kk
  subst hi
  obtain ⟨hdg, hnx⟩ := gx_dec hM ha rfl
  dsimp only [gx_len] at hdg hnx
  subst hnx
  refine gx_liftR ?_ kk
  intro p e R s m args below meth c H locs cells slots Q ls hI hR k1
  exact lv_ldc hI.1 hI.2.1 hI.2.2.2.2.2.1 (hI.2.2.2.2.2.2.1 _ hk) hdg k1
/-- switches -/
theorem gx_tI {i : gx_I} {dflt lo hi9 off : Int} {offs : Array Int} {x : Int32} {tgt : Nat} (hM : gx_ok M) (ha : gx_at M.2 pc = some i) (hi : i.1 = .tableswitch dflt lo hi9 offs) (h1 : ¬ x.toInt < lo) (h2 : ¬ hi9 < x.toInt) (ho : offs[(x.toInt - lo).toNat]? = some off) (ht : (pc : Int) + off = (tgt : Int)) (kk : gx_Go l F d M tgt L st h P) : gx_Go l F d M pc L (.int x :: st) h P := by
  obtain ⟨hdg, -⟩ := gx_ok_at hM ha
  rw [hi] at hdg
  refine gx_liftR ?_ kk
  intro p e R s m args below meth c H locs cells slots Q ls hI hR k1
  exact lv_tableIn hI.1 hI.2.1 hdg h1 h2 ho ht k1
theorem gx_tO {i : gx_I} {dflt lo hi9 : Int} {offs : Array Int} {x : Int32} {tgt : Nat} (hM : gx_ok M) (ha : gx_at M.2 pc = some i) (hi : i.1 = .tableswitch dflt lo hi9 offs) (h1 : x.toInt < lo ∨ hi9 < x.toInt) (ht : (pc : Int) + dflt = (tgt : Int)) (kk : gx_Go l F d M tgt L st h P) : gx_Go l F d M pc L (.int x :: st) h P := by
  obtain ⟨hdg, -⟩ := gx_ok_at hM ha
  rw [hi] at hdg
  refine gx_liftR ?_ kk
  intro p e R s m args below meth c H locs cells slots Q ls hI hR k1
  exact lv_tableOut hI.1 hI.2.1 hdg h1 ht k1
theorem gx_lk {i : gx_I} {dflt off : Int} {ps : Array (Int × Int)} {x : Int32} {tgt : Nat} (hM : gx_ok M) (ha : gx_at M.2 pc = some i) (hi : i.1 = .lookupswitch dflt ps) (hp : (ps.toList.zip (ps.toList.drop 1)).all (fun (a, next) => a.1 < next.1) = true) (ho : Op.lookupswitch.offset ps.toList dflt x.toInt = off) (ht : (pc : Int) + off = (tgt : Int)) (kk : gx_Go l F d M tgt L st h P) : gx_Go l F d M pc L (.int x :: st) h P := by
  obtain ⟨hdg, -⟩ := gx_ok_at hM ha
  rw [hi] at hdg
  refine gx_liftR ?_ kk
  intro p e R s m args below meth c H locs cells slots Q ls hI hR k1
  exact lv_lookup hI.1 hI.2.1 hdg hp ho ht k1
/-- Math.max -/
theorem gx_mx {i : gx_I} {idx : Nat} {x y : Int32} (hM : gx_ok M) (ha : gx_at M.2 pc = some i) (hi : i.1 = .invokestatic idx) (hx : i.2.2.2.2.2.2.1 = [3]) (hw : (st.map fun v => v.category).sum ≤ 8) (kk : gx_Go l F (d + 1) M i.2.2.2.2.1 L (.int (if x < y then y else x) :: st) h P) : gx_Go l F (d + 1) M pc L (.int y :: .int x :: st) h P := by
  have hk := gx_oki_at hM ha
  obtain ⟨ins, len, c32, c64, nxt, tgt, aux, sgn⟩ := i
  dsimp only at hi hx kk
  subst hi
  subst hx
  obtain ⟨hdg, hnx⟩ := gx_dec hM ha rfl
  dsimp only [gx_len] at hdg hnx
  subst hnx
  obtain ⟨w1, w2, w3, w4⟩ := (show gx_cS M idx [3] sgn from hk)
  obtain ⟨r, ⟨h1, h2, h0, hr⟩, hp⟩ := kk
  refine ⟨r, ⟨h1, h2, h0, ?_⟩, hp⟩
  intro p e R s m args below meth c H locs cells slots cE sE Q ls hI hR hL hlo hd1 hd2 e1 e2 e3 e4 hret
  have k1 := hr p e R s m args below meth c H locs cells slots cE sE Q ls hI hR hL hlo hd1 hd2 e1 e2 e3 e4 hret
  obtain ⟨hx1, hb, hml, hr9, hlk, hown, hts, hE, hin⟩ := hI
  exact va_mmax hx1 hb (by rw [hml]; exact hL.1.symm) hown (hts _ w1) (hts _ w2) (hts _ w3) (hts _ w4) (by omega) (by omega) (by omega) (by omega) hdg k1
/-- Math.min -/
theorem gx_mn {i : gx_I} {idx : Nat} {x y : Int32} (hM : gx_ok M) (ha : gx_at M.2 pc = some i) (hi : i.1 = .invokestatic idx) (hx : i.2.2.2.2.2.2.1 = [4]) (hw : (st.map fun v => v.category).sum ≤ 8) (kk : gx_Go l F (d + 1) M i.2.2.2.2.1 L (.int (if y < x then y else x) :: st) h P) : gx_Go l F (d + 1) M pc L (.int y :: .int x :: st) h P := by
  have hk := gx_oki_at hM ha
  obtain ⟨ins, len, c32, c64, nxt, tgt, aux, sgn⟩ := i
  dsimp only at hi hx kk
  subst hi
  subst hx
  obtain ⟨hdg, hnx⟩ := gx_dec hM ha rfl
  dsimp only [gx_len] at hdg hnx
  subst hnx
  obtain ⟨w1, w2, w3, w4⟩ := (show gx_cS M idx [4] sgn from hk)
  obtain ⟨r, ⟨h1, h2, h0, hr⟩, hp⟩ := kk
  refine ⟨r, ⟨h1, h2, h0, ?_⟩, hp⟩
  intro p e R s m args below meth c H locs cells slots cE sE Q ls hI hR hL hlo hd1 hd2 e1 e2 e3 e4 hret
  have k1 := hr p e R s m args below meth c H locs cells slots cE sE Q ls hI hR hL hlo hd1 hd2 e1 e2 e3 e4 hret
  obtain ⟨hx1, hb, hml, hr9, hlk, hown, hts, hE, hin⟩ := hI
  exact va_mmin hx1 hb (by rw [hml]; exact hL.1.symm) hown (hts _ w1) (hts _ w2) (hts _ w3) (hts _ w4) (by omega) (by omega) (by omega) (by omega) hdg k1
end GX4
