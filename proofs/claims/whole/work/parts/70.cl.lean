/-! clone() of an array of ints, and the cast behind it -/
section CL
variable {l : Launch} {F : gx_F} {d : Nat} {M : gx_M} {pc : Nat} {L : List (Option Value)} {st : List Value} {h : gx_H} {P : gx_Z → Prop}
theorem gx_cln {idx a n0 : Nat} {f : Nat → Int32} (hdg : decode M.1.2.1 pc = .ok (.invokevirtual idx, 3)) (hlink : Cond.methodLink M.1.1.cls idx ⟨"[I", "clone", "()Ljava/lang/Object;"⟩ ∈ gx_Ts) (hsame : Cond.sameMethod "[I" "java/lang/Object" "clone" "()Ljava/lang/Object;" ∈ gx_Ts) (hnat : Cond.native ⟨"java/lang/Object", "clone", "()Ljava/lang/Object;"⟩ ∈ gx_Ts) (hinst : Cond.instanceMethod ⟨"java/lang/Object", "clone", "()Ljava/lang/Object;"⟩ ∈ gx_Ts) (hsel : Cond.selects "[I" ⟨"[I", "clone", "()Ljava/lang/Object;"⟩ ⟨"java/lang/Object", "clone", "()Ljava/lang/Object;"⟩ ∈ gx_Ts) (hcl : Cond.castable "[I" "java/lang/Cloneable" ∈ gx_NW)
    (hca : h.2.2 a = some (.inl (0, n0, .inl f))) (hw : (st.map fun v => v.category).sum ≤ 8) (kk : gx_Go l F (d + 1) M (pc + 3) L (.ref h.1 :: st) (gx_push h n0 (.inl (0, n0, .inl f))) P) : gx_Go l F (d + 1) M pc L (.ref a :: st) h P := by
  obtain ⟨r, ⟨g1, g2, g0, hr⟩, hp⟩ := kk
  have g1' : h.1 + 1 ≤ r.2.1 := g1
  have g2' : h.2.1 + n0 ≤ r.2.2.1 := g2
  refine ⟨r, ⟨by omega, by omega, g0, ?_⟩, hp⟩
  intro p e R s m args below meth c H locs cells slots cE sE Q ls hI hR hL hlo hd1 hd2 q1 q2 q3 q4 hret
  have hI0 := hI
  obtain ⟨hx1, hb, hml, hrt, hlk, hown, hts, hE, hin⟩ := hI
  have ht : (gx_ty F)[0]? = some (F.2.1 0, .int) := gx_ty_at F rfl
  have hnm : s.vm.findClass "[I" = some (F.2.1 0) := va_nm_int (hE.1.2 0 _ ht).2
  have hsz : (vp_cell (F.2.1 0) (n0, .inl f)).slots.size = n0 := arrV_size _ _ _
  have hvm0 : (vp_cell (F.2.1 0) (n0, .inl f)).vm = .none := rfl
  have hcl0 : (vp_cell (F.2.1 0) (n0, .inl f)).cls = F.2.1 0 := rfl
  have hcellE : ({ cls := (vp_cell (F.2.1 0) (n0, .inl f)).cls, slots := (vp_cell (F.2.1 0) (n0, .inl f)).slots } : Cell) = vp_cell (F.2.1 0) (n0, .inl f) := rfl
  obtain ⟨c0, t0', f1, f2, f3⟩ := Cond.castable_spec (va_Nw.use (A := args) rfl (hE.2.1 _ hcl))
  cases hnm.symm.trans f1
  intro T hT X
  have hc0 : H[a]? = some (vp_cell (F.2.1 0) (n0, .inl f)) := (hR.2.2.2.2 a _ hca).2
  have hcellT : T.heap[a]? = some (vp_cell (F.2.1 0) (n0, .inl f)) := by rw [hT]; exact hc0
  obtain ⟨-, kA, hkA, comp, hkind⟩ := State.isArrayOf_alike X.warmed.alike ((hE.1.2 0 _ ht).1 0 (fun _ => .null))
  obtain ⟨-, kS, hkS, compS, hkindS⟩ := (hE.1.2 0 _ ht).1 0 (fun _ => .null)
  have hfit : ∀ (i : Nat) (v : Value), (vp_cell (F.2.1 0) (n0, .inl f)).slots[i]? = some v → fits .int v = true := fun i v hv => va_fit (ty := .int) (F := fun j => .int (f j)) (fun _ _ => rfl) i v hv
  obtain ⟨vm', X', stp⟩ := X.cloneArray hx1 hown (hts _ hlink) (hts _ hsame) (hts _ hnat) (hts _ hinst) (hts _ hsel) (a := a) (cell := vp_cell (F.2.1 0) (n0, .inl f)) hcellT (fun k h => by rw [hvm0] at h; cases h) (by rw [hvm0]; exact fun h => by cases h) (by rw [hcl0]; exact hnm) f2 (by rw [hcl0]; exact f3)
    (fun i v hv => by
      rw [hcl0]
      have hk' : T.vm.classes[F.2.1 0]? = some kA := hkA
      simpa [State.fitsSlot, State.slotType?, hk', hkind] using hfit i v hv)
    (g := F0 m pc ls (.ref a :: st)) rfl (by rw [hml]; exact hL.1) rfl (by rw [hb]; exact hdg) (by omega) (by show 2 * 0 + _ + 14 ≤ _; omega) (by omega) (by rw [hsz]; omega) (hloader := by rw [hcl0]; exact Vm.clonesLoader_of_array hkS hkindS)
  rw [hcellE, hsz] at X'
  have z1 : (H.push (vp_cell (F.2.1 0) (n0, .inl f))).size = H.size + 1 := Array.size_push ..
  have e1 : (H.push (vp_cell (F.2.1 0) (n0, .inl f)))[H.size]? = some (vp_cell (F.2.1 0) (n0, .inl f)) := Array.getElem?_push_size ..
  have o1 : ∀ q : Nat, q < H.size → (H.push (vp_cell (F.2.1 0) (n0, .inl f)))[q]? = H[q]? := fun q hq => by rw [Array.getElem?_push, if_neg (Nat.ne_of_lt hq)]
  have hz : H.size = h.1 := hR.1
  have hW := hr p e R s m args below meth c (H.push (vp_cell (F.2.1 0) (n0, .inl f))) locs (cells + 1) (slots + n0) cE sE Q ls hI0 (hR.add (n := n0) (e := .inl (0, n0, .inl f)) z1 o1 e1) hL hlo hd1 hd2 (by show cells + 1 + r.2.1 = cE + (h.1 + 1); omega) (by show slots + n0 + r.2.2.1 = sE + (h.2.1 + n0); omega) q3 q4 hret
  rw [← hz] at hW
  obtain ⟨t, b1, b2⟩ := hW ((T.setVm vm').pushCell (vp_cell (F.2.1 0) (n0, .inl f))) (by rw [← hT]; rfl) X'
  refine ⟨t, stp t ?_, b2⟩
  rw [hcellE, hT]
  exact b1
theorem gx_cst {idx a n0 : Nat} {f : Nat → Int32} (hdg : decode M.1.2.1 pc = .ok (.checkcast idx, 3)) (hlink : Cond.classLink M.1.1.cls idx "[I" ∈ gx_Ts) (hca : h.2.2 a = some (.inl (0, n0, .inl f))) (kk : gx_Go l F d M (pc + 3) L (.ref a :: st) h P) : gx_Go l F d M pc L (.ref a :: st) h P := by
  refine gx_liftR ?_ kk
  intro p e R s m args below meth c H locs cells slots Q ls hI hR k1
  obtain ⟨hx1, hb, hml, hrt, hlk, hown, hts, hE, hin⟩ := hI
  have ht : (gx_ty F)[0]? = some (F.2.1 0, .int) := gx_ty_at F rfl
  exact va_castA (ws := [(a, .inl (F.2.1 0, n0, .inl f))]) hx1 hb hown (hts _ hlink) (gx_P1 hR hca) 0 rfl (va_nm_int (hE.1.2 0 _ ht).2) hdg k1
end CL
