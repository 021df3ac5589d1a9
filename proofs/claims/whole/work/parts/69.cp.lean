/-! System.arraycopy between two arrays of ints; the cast to int[] -/
section CP
variable {l : Launch} {F : gx_F} {d : Nat} {M : gx_M} {pc : Nat} {L : List (Option Value)} {st : List Value} {h : gx_H} {P : gx_Z → Prop}
theorem gx_cpy {idx a0 a n0 n1 : Nat} {f g : Nat → Int32} {sp dp n : Int32} (hdg : decode M.1.2.1 pc = .ok (.invokestatic idx, 3)) (hlink : Cond.methodLink M.1.1.cls idx arraycopyName ∈ gx_Ts) (hnat : Cond.native arraycopyName ∈ gx_Ts) (hstat : Cond.static arraycopyName ∈ gx_Ts) (hini : Cond.initialized "java/lang/System" ∈ gx_Ts)
    (hca0 : h.2.2 a0 = some (.inl (0, n0, .inl f))) (hca : h.2.2 a = some (.inl (0, n1, .inl g))) (h1 : ¬ sp < 0) (h2 : ¬ dp < 0) (h3 : ¬ n < 0) (h4 : sp.toNatClampNeg + n.toNatClampNeg ≤ n0) (h5 : dp.toNatClampNeg + n.toNatClampNeg ≤ n1) (hw : (st.map fun v => v.category).sum ≤ 8)
    (kk : gx_Go l F (d + 1) M (pc + 3) L st (gx_set h a (.inl (0, n1, .inl (va_cpy f g sp.toNatClampNeg dp.toNatClampNeg n.toNatClampNeg)))) P) : gx_Go l F (d + 1) M pc L (.int n :: .int dp :: .ref a :: .int sp :: .ref a0 :: st) h P := by
  obtain ⟨r, ⟨g1, g2, g0, hr⟩, hp⟩ := kk
  refine ⟨r, ⟨g1, g2, g0, ?_⟩, hp⟩
  intro p e R s m args below meth c H locs cells slots cE sE Q ls hI hR hL hlo hd1 hd2 q1 q2 q3 q4 hret
  have hI0 := hI
  obtain ⟨hx1, hb, hml, hrt, hlk, hown, hts, hE, hin⟩ := hI
  have nn : ∀ z : Int32, ¬ z < 0 → z.toInt = (z.toNatClampNeg : Int) := by
    intro z hz
    have hz0 : (0 : Int) ≤ z.toInt := by
      have := Int32.not_lt.mp hz
      simpa using Int32.le_iff_toInt_le.mp this
    show z.toInt = ((z.toInt.toNat : Nat) : Int)
    omega
  have hN : nativeFrameWords "java/lang/System" "arraycopy" 5 + 11 ≤ 32 := by decide +kernel
  intro T hT X
  have hc0 : H[a0]? = some (vp_cell (F.2.1 0) (n0, .inl f)) := (hR.2.2.2.2 a0 _ hca0).2
  have hc1 : H[a]? = some (vp_cell (F.2.1 0) (n1, .inl g)) := (hR.2.2.2.2 a _ hca).2
  have ht : (gx_ty F)[0]? = some (F.2.1 0, .int) := gx_ty_at F rfl
  obtain ⟨-, k0, hk0, cm0, hkk0⟩ := (hE.1.2 0 _ ht).1 n0 (fun j => .int (f j))
  obtain ⟨-, k1, hk1, cm1, hkk1⟩ := (hE.1.2 0 _ ht).1 n1 (fun j => .int (g j))
  obtain ⟨vm', X', step⟩ := X.arraycopy hx1 hown (hts _ hlink) (hts _ hnat) (hts _ hstat) (hts _ hini) (src := a0) (dst := a) (cs := vp_cell (F.2.1 0) (n0, .inl f)) (cd := vp_cell (F.2.1 0) (n1, .inl g)) (srcPos := sp) (destPos := dp) (n := n) (by rw [hT]; exact hc0) (by rw [hT]; exact hc1)
    (fun _ h => by cases h) (fun _ h => by cases h) (fun h => by cases h) (fun h => by cases h) hk0 hk1 hkk0 hkk1 (by simp [refKind]) h1 h2 h3
    (by rw [nn sp h1, nn n h3]; show ¬ _ > ((arrV (F.2.1 0) n0 (fun j => .int (f j))).slots.size : Int); rw [arrV_size]; omega)
    (by rw [nn dp h2, nn n h3]; show ¬ _ > ((arrV (F.2.1 0) n1 (fun j => .int (g j))).slots.size : Int); rw [arrV_size]; omega)
    (fun vm₁ _ i hi => by
      have e : (vp_cell (F.2.1 0) (n0, .inl f)).slots.getD (sp.toNatClampNeg + i) .null = .int (f (sp.toNatClampNeg + i)) := by
        show (arrV (F.2.1 0) n0 (fun j => .int (f j))).slots.getD _ _ = _
        rw [Array.getD_eq_getD_getElem?, arrV_read _ _ (by omega)]
        rfl
      refine ⟨?_, ?_⟩
      · rw [e]
        rfl
      · rw [e]
        exact trivial)
    (g := F0 m pc ls (.int n :: .int dp :: .ref a :: .int sp :: .ref a0 :: st)) rfl (by rw [hml]; exact hL.1) (rest := st) rfl (by rw [hb]; exact hdg) (by omega) (by show 2 * 0 + _ + _ ≤ _; omega)
  have e1 : copied (vp_cell (F.2.1 0) (n0, .inl f)) (vp_cell (F.2.1 0) (n1, .inl g)) sp dp n = vp_cell (F.2.1 0) (n1, .inl (va_cpy f g sp.toNatClampNeg dp.toNatClampNeg n.toNatClampNeg)) := va_copied (fun z => .int z) (F.2.1 0) (F.2.1 0) f g h4
  rw [e1] at X' step
  have hl : a < H.size := (Array.getElem?_eq_some_iff.mp hc1).1
  have hheap : ((T.setVm vm').setCell a (vp_cell (F.2.1 0) (n1, .inl (va_cpy f g sp.toNatClampNeg dp.toNatClampNeg n.toNatClampNeg)))).heap = H.setIfInBounds a (vp_cell (F.2.1 0) (n1, .inl (va_cpy f g sp.toNatClampNeg dp.toNatClampNeg n.toNatClampNeg))) := by rw [← hT]; rfl
  have oq : ∀ q : Nat, q ≠ a → (H.setIfInBounds a (vp_cell (F.2.1 0) (n1, .inl (va_cpy f g sp.toNatClampNeg dp.toNatClampNeg n.toNatClampNeg))))[q]? = H[q]? := fun q hq => by simp [Array.getElem?_setIfInBounds, Ne.symm hq]
  have hput := hR.put (e := .inl (0, n1, .inl (va_cpy f g sp.toNatClampNeg dp.toNatClampNeg n.toNatClampNeg))) hca (H1 := H.setIfInBounds a (vp_cell (F.2.1 0) (n1, .inl (va_cpy f g sp.toNatClampNeg dp.toNatClampNeg n.toNatClampNeg)))) (by simp) oq (show (H.setIfInBounds a _)[a]? = some _ by simp [Array.getElem?_setIfInBounds, hl])
  obtain ⟨t, b1, b2⟩ := hr p e R s m args below meth c _ _ cells slots cE sE Q ls hI0 hput hL (fun q hq => by
      rcases List.mem_append.mp hq with h | h
      · exact hlo q h
      · obtain ⟨z, -, hz⟩ := List.mem_map.mp h
        rw [← hz]
        exact (hR.2.2.2.2 a _ hca).1) hd1 hd2 q1 q2 q3 q4 hret _ hheap X'
  exact ⟨t, step t b1, b2⟩
end CP
