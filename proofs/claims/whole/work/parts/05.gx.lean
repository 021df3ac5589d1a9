section GX3
variable {l : Launch} {F : gx_F} {d : Nat} {M : gx_M} {pc : Nat} {L : List (Option Value)} {st : List Value} {h : gx_H} {P : gx_Z → Prop}
/-- an object's fields when it is made -/
def gx_def : List Nat → List Value
  | [] => []
  | t :: ts => (match t with
    | 2 => Value.null
    | 3 => Value.long 0
    | _ => Value.int 0) :: gx_def ts
theorem gx_def_at : ∀ (ts : List Nat) (k : Nat) (ty : FieldType), ts[k]? = some (gx_tc ty) → gx_tc ty ≠ 9 → vp_V (gx_def ts) k = defaultValue ty
  | [], k, ty, h1, _ => by simp at h1
  | t :: ts, 0, ty, h1, h2 => by
    have h3 : t = gx_tc ty := by simpa using h1
    subst h3
    cases ty <;> first | rfl | exact absurd rfl h2
  | t :: ts, k + 1, ty, h1, h2 => by
    have h3 : ts[k]? = some (gx_tc ty) := by simpa using h1
    have h4 := gx_def_at ts k ty h3 h2
    have h5 : vp_V (gx_def (t :: ts)) (k + 1) = vp_V (gx_def ts) k := by simp [vp_V, gx_def]
    rw [h5]
    exact h4
/-- new: the next cell, its fields as they are born; ts are its fields' kinds -/
theorem gx_nw {i : gx_I} {idx ci n : Nat} {ts : List Nat} (hM : gx_ok M) (ha : gx_at M.2 pc = some i) (hi : i.1 = .new idx) (hx : i.2.2.2.2.2.2.1 = [ci]) (hts9 : gx_kd[ci]? = some ts) (h9 : ts.all (fun t => Nat.blt t 9) = true) (hn9 : ts.length = n) (kk : gx_Go l F d M i.2.2.2.2.1 L (.ref h.1 :: st) (gx_push h n (.inr (ci, gx_def ts))) P) : gx_Go l F d M pc L st h P := by
  have hk := gx_oki_at hM ha
  obtain ⟨ins, len, c32, c64, nxt, tgt, aux, sgn⟩ := i
  dsimp only at hi hx kk
  subst hi
  subst hx
  obtain ⟨hdg, hn⟩ := gx_dec hM ha rfl
  dsimp only [gx_len] at hdg hn
  subst hn
  obtain ⟨q, hq, w1, w2, w3⟩ := (show gx_nb M idx [ci] from hk)
  obtain ⟨hln, hts8⟩ := gx_cl_kd hq hts9
  have hnq : q.2.2 = n := hln.symm.trans hn9
  subst hnq
  refine gx_liftN (n := q.2.2) (e1 := .inr (ci, gx_def ts)) ?_ kk
  intro p e R s m args below meth c H locs cells slots Q ls hI hR hc1 hc2 k1
  obtain ⟨hx1, hb, hml, hr, hlk, hown, hts, hE, hin⟩ := hI
  have hKn := hE.1.1 ci _ hq
  refine W.newcK hx1 hb hown (hts _ (w1)) (hts _ (w2)) (hts _ (w3)) rfl hdg hc1 hc2 hKn.2.1 rfl fun H1 kC hkC e1 z1 o1 => ?_
  refine k1 H1 z1 o1 ⟨q, hq, (u_born (gx_tyf q) hts (gx_cl_ws hq) hKn hkC e1 (gx_cl_ty hq)).to fun j hj => ?_⟩
  refine (gx_def_at ts j (gx_tyf q j) ?_ ?_).symm
  · exact hts8 j hj
  · have h8 := List.all_eq_true.mp h9 (gx_tc (gx_tyf q j)) (List.mem_of_getElem? (hts8 j hj))
    have h7 : gx_tc (gx_tyf q j) + 1 ≤ 9 := Nat.le_of_ble_eq_true h8
    omega
/-- what an array of a type holds when it is made -/
def gx_zr : ArrayType → (Nat → Int32) ⊕ (Nat → Int64) ⊕ (Nat → UInt32) ⊕ (Nat → UInt64) ⊕ (Nat → Option Nat)
  | .long => .inr (.inl (fun _ => 0))
  | _ => .inl (fun _ => 0)
def gx_zb : ArrayType → Bool
  | .float => false
  | .double => false
  | _ => true
theorem gx_na {i : gx_I} {at_ : ArrayType} {t n : Nat} {x : Int32} (hM : gx_ok M) (ha : gx_at M.2 pc = some i) (hi : i.1 = .newarray at_) (hx : i.2.2.2.2.2.2.1 = [t]) (hz : gx_zb at_ = true) (hx0 : x = nI n) (hn0 : n ≤ 1000000) (kk : gx_Go l F d M i.2.2.2.2.1 L (.ref h.1 :: st) (gx_push h n (.inl (t, n, gx_zr at_))) P) : gx_Go l F d M pc L (.int x :: st) h P := by
  have hk := gx_oki_at hM ha
  obtain ⟨ins, len, c32, c64, nxt, tgt, aux, sgn⟩ := i
  dsimp only at hi hx kk
  subst hi
  subst hx
  obtain ⟨hdg, hn⟩ := gx_dec hM ha rfl
  dsimp only [gx_len] at hdg hn
  subst hn
  obtain ⟨w1, w2⟩ := (show gx_ab at_ [t] from hk)
  refine gx_liftN (n := n) (e1 := .inl (t, n, gx_zr at_)) ?_ kk
  intro p e R s m args below meth c H locs cells slots Q ls hI hR hc1 hc2 k1
  obtain ⟨hx1, hb, hml, hr, hlk, hown, hts, hE, hin⟩ := hI
  have ht := gx_ty_at F w1
  refine va_newaK hx1 hb (hts _ (w2)) rfl hdg rfl (by rw [hx0]; exact nI_pos (by omega)) (by rw [hx0]; exact nI_clamp (by omega)) (by cases at_ <;> simp [componentBytes, newarray.typeOf] <;> omega) hc1 hc2 rfl fun H1 cA e1 z1 o1 hAr hNm => ?_
  have hcA : cA = F.2.1 t := by
    have h2 := (hE.1.2 t _ ht).2
    have h3 : s.vm.findClass ("[" ++ (newarray.typeOf at_).toString) = some (F.2.1 t) := by cases at_ <;> exact h2
    exact Option.some.inj (hNm.symm.trans h3)
  subst hcA
  refine k1 H1 z1 o1 ?_
  show H1[H.size]? = some (vp_cell (F.2.1 t) (n, gx_zr at_))
  rw [e1]
  cases at_ <;> first | rfl | cases hz
theorem gx_nq {i : gx_I} {idx t n : Nat} {x : Int32} (hM : gx_ok M) (ha : gx_at M.2 pc = some i) (hi : i.1 = .anewarray idx) (hx : i.2.2.2.2.2.2.1 = [t]) (hx0 : x = nI n) (hn0 : n ≤ 1000000) (kk : gx_Go l F d M i.2.2.2.2.1 L (.ref h.1 :: st) (gx_push h n (.inl (t, n, .inr (.inr (.inr (.inr (fun _ => none))))))) P) : gx_Go l F d M pc L (.int x :: st) h P := by
  have hk := gx_oki_at hM ha
  obtain ⟨ins, len, c32, c64, nxt, tgt, aux, sgn⟩ := i
  dsimp only at hi hx kk
  subst hi
  subst hx
  obtain ⟨hdg, hn⟩ := gx_dec hM ha rfl
  dsimp only [gx_len] at hdg hn
  subst hn
  obtain ⟨C, hC, w1, w2⟩ := (show gx_qb M idx [t] from hk)
  refine gx_liftN (n := n) (e1 := .inl (t, n, .inr (.inr (.inr (.inr (fun _ => none)))))) ?_ kk
  intro p e R s m args below meth c H locs cells slots Q ls hI hR hc1 hc2 k1
  obtain ⟨hx1, hb, hml, hr, hlk, hown, hts, hE, hin⟩ := hI
  have ht := gx_ty_at F hC
  have hN : x.toNatClampNeg = n := by rw [hx0]; exact nI_clamp (by omega)
  have hov : va_AO C s := hE.2.1 _ (w2)
  refine W.anew hx1 hb hown (hts _ (w1)) (va_AO.use hov) rfl hdg rfl (by rw [hx0]; exact nI_pos (by omega)) (by rw [hN]; omega) hc1 (by rw [hN]; exact hc2) fun cA kA comp f1 f2 f3 f4 => ?_
  rw [hN]
  obtain ⟨kA', comp', g1, g2, g3, g4⟩ := (hE.1.2 t _ ht).2
  have hcA : cA = F.2.1 t := Option.some.inj (f1.symm.trans g4)
  subst hcA
  refine k1 _ (by rw [Array.size_push]) (fun q hq => by rw [Array.getElem?_push, if_neg (Nat.ne_of_lt hq)]) ?_
  show (H.push _)[H.size]? = some (vp_cell (F.2.1 t) _)
  rw [Array.getElem?_push_size, vp_cell_q, ← arrV_new]
  rfl
/-- a cell of the world as the kit's rows want it -/
theorem gx_P1 {F : gx_F} {h : gx_H} {H : Heap} {a : Nat} {e : gx_C} (hR : gx_R F h H) (hc : h.2.2 a = some e) : va_P F.1 gx_cl [(a, gx_e F e)] H := fun j x hj => by
  have hj0 : j = 0 := by
    have := (List.getElem?_eq_some_iff.mp hj).1
    simp at this
    exact this
  subst hj0
  cases hj
  exact (hR.2.2.2.2 a _ hc).2
/-- arrays are read -/
theorem gx_il1 {i : gx_I} {a t n : Nat} {f : Nat → Int32} {x : Int32} (hM : gx_ok M) (ha : gx_at M.2 pc = some i) (hi : i.1 = .iaload) (ht : gx_TY[t]? = some .int) (hc : h.2.2 a = some (.inl (t, n, .inl f))) (hin : vp_in x n) (kk : gx_Go l F d M i.2.2.2.2.1 L (.int (f x.toNatClampNeg) :: st) h P) : gx_Go l F d M pc L (.int x :: .ref a :: st) h P := by
  obtain ⟨ins, len, c32, c64, nxt, tgt, aux, sgn⟩ := i
  dsimp only at hi kk
  subst hi
  obtain ⟨hdg, hn⟩ := gx_dec hM ha rfl
  dsimp only [gx_len] at hdg hn
  subst hn
  refine gx_liftR ?_ kk
  intro p e R s m args below meth c H locs cells slots Q ls hI hR k1
  exact va_iald (ws := [(a, .inl (F.2.1 t, n, .inl f))]) hI.1 hI.2.1 hI.2.2.2.2.2.2.2.1.1 (gx_P1 hR hc) 0 t rfl (gx_ty_at F ht) hin hdg k1
theorem gx_cl1 {i : gx_I} {a t n : Nat} {f : Nat → Int32} {x : Int32} (hM : gx_ok M) (ha : gx_at M.2 pc = some i) (hi : i.1 = .caload) (ht : gx_TY[t]? = some .char) (hc : h.2.2 a = some (.inl (t, n, .inl f))) (hin : vp_in x n) (kk : gx_Go l F d M i.2.2.2.2.1 L (.int (f x.toNatClampNeg) :: st) h P) : gx_Go l F d M pc L (.int x :: .ref a :: st) h P := by
  obtain ⟨ins, len, c32, c64, nxt, tgt, aux, sgn⟩ := i
  dsimp only at hi kk
  subst hi
  obtain ⟨hdg, hn⟩ := gx_dec hM ha rfl
  dsimp only [gx_len] at hdg hn
  subst hn
  refine gx_liftR ?_ kk
  intro p e R s m args below meth c H locs cells slots Q ls hI hR k1
  exact va_cald (ws := [(a, .inl (F.2.1 t, n, .inl f))]) hI.1 hI.2.1 hI.2.2.2.2.2.2.2.1.1 (gx_P1 hR hc) 0 t rfl (gx_ty_at F ht) hin hdg k1
theorem gx_ll1 {i : gx_I} {a t n : Nat} {f : Nat → Int64} {x : Int32} (hM : gx_ok M) (ha : gx_at M.2 pc = some i) (hi : i.1 = .laload) (ht : gx_TY[t]? = some .long) (hc : h.2.2 a = some (.inl (t, n, .inr (.inl f)))) (hin : vp_in x n) (kk : gx_Go l F d M i.2.2.2.2.1 L (.long (f x.toNatClampNeg) :: st) h P) : gx_Go l F d M pc L (.int x :: .ref a :: st) h P := by
  obtain ⟨ins, len, c32, c64, nxt, tgt, aux, sgn⟩ := i
  dsimp only at hi kk
  subst hi
  obtain ⟨hdg, hn⟩ := gx_dec hM ha rfl
  dsimp only [gx_len] at hdg hn
  subst hn
  refine gx_liftR ?_ kk
  intro p e R s m args below meth c H locs cells slots Q ls hI hR k1
  exact va_lald (ws := [(a, .inl (F.2.1 t, n, .inr (.inl f)))]) hI.1 hI.2.1 hI.2.2.2.2.2.2.2.1.1 (gx_P1 hR hc) 0 t rfl (gx_ty_at F ht) hin hdg k1
theorem gx_al1 {i : gx_I} {a t n : Nat} {C : String} {f : Nat → Option Nat} {x : Int32} {v : Value} (hM : gx_ok M) (ha : gx_at M.2 pc = some i) (hi : i.1 = .aaload) (ht : gx_TY[t]? = some (.object C)) (hc : h.2.2 a = some (.inl (t, n, .inr (.inr (.inr (.inr f)))))) (hin : vp_in x n) (hv : va_rf (f x.toNatClampNeg) = v) (kk : gx_Go l F d M i.2.2.2.2.1 L (v :: st) h P) : gx_Go l F d M pc L (.int x :: .ref a :: st) h P := by
  obtain ⟨ins, len, c32, c64, nxt, tgt, aux, sgn⟩ := i
  dsimp only at hi kk
  subst hi
  subst hv
  obtain ⟨hdg, hn⟩ := gx_dec hM ha rfl
  dsimp only [gx_len] at hdg hn
  subst hn
  refine gx_liftR ?_ kk
  intro p e R s m args below meth c H locs cells slots Q ls hI hR k1
  exact va_aldq (ws := [(a, .inl (F.2.1 t, n, .inr (.inr (.inr (.inr f)))))]) hI.1 hI.2.1 hI.2.2.2.2.2.2.2.1.1 (gx_P1 hR hc) 0 t rfl (gx_ty_at F ht) hin hdg k1
theorem gx_ln {i : gx_I} {a t : Nat} {ty : FieldType} {x : vp_A} (hM : gx_ok M) (ha : gx_at M.2 pc = some i) (hi : i.1 = .arraylength) (ht : gx_TY[t]? = some ty) (hc : h.2.2 a = some (.inl (t, x))) (kk : gx_Go l F d M i.2.2.2.2.1 L (.int (nI x.1) :: st) h P) : gx_Go l F d M pc L (.ref a :: st) h P := by
  obtain ⟨ins, len, c32, c64, nxt, tgt, aux, sgn⟩ := i
  dsimp only at hi kk
  subst hi
  obtain ⟨hdg, hn⟩ := gx_dec hM ha rfl
  dsimp only [gx_len] at hdg hn
  subst hn
  refine gx_liftR ?_ kk
  intro p e R s m args below meth c H locs cells slots Q ls hI hR k1
  exact va_alen (ws := [(a, .inl (F.2.1 t, x))]) hI.1 hI.2.1 hI.2.2.2.2.2.2.2.1.1 (gx_P1 hR hc) 0 t rfl (gx_ty_at F ht) rfl hdg k1
/-- arrays are written -/
theorem gx_is1 {i : gx_I} {a t n : Nat} {f : Nat → Int32} {x v : Int32} (hM : gx_ok M) (ha : gx_at M.2 pc = some i) (hi : i.1 = .iastore) (ht : gx_TY[t]? = some .int) (hc : h.2.2 a = some (.inl (t, n, .inl f))) (hin : vp_in x n) (kk : gx_Go l F d M i.2.2.2.2.1 L st (gx_set h a (.inl (t, n, .inl (upd f x.toNatClampNeg v)))) P) : gx_Go l F d M pc L (.int v :: .int x :: .ref a :: st) h P := by
  obtain ⟨ins, len, c32, c64, nxt, tgt, aux, sgn⟩ := i
  dsimp only at hi kk
  subst hi
  obtain ⟨hdg, hn⟩ := gx_dec hM ha rfl
  dsimp only [gx_len] at hdg hn
  subst hn
  refine gx_liftW (e1 := .inl (t, n, .inl (upd f x.toNatClampNeg v))) hc ?_ kk
  intro p e R s m args below meth c H locs cells slots Q ls hI hR k1
  have hcell : H[a]? = some (vp_cell (F.2.1 t) (n, .inl f)) := (hR.2.2.2.2 a _ hc).2
  refine W.iast hI.1 hI.2.1 hcell ((hI.2.2.2.2.2.2.2.1.1.2 t _ (gx_ty_at F ht)).1 n (fun j => .int (f j))) (fun q => by cases q) (by show ¬ (x < 0 ∨ (arrV _ _ _).slots.size ≤ _); rw [arrV_size]; exact hin) rfl rfl hdg fun H1 e1 z1 o1 => ?_
  refine k1 H1 _ z1 o1 ?_
  show H1[a]? = some (vp_cell _ _)
  rw [e1, vp_cell_i, vp_cell_i, arrV_store]
  congr 2
  funext q
  by_cases hq : q = x.toNatClampNeg
  · subst hq
    simp [updV, upd]
  · simp [updV, upd, hq]
theorem gx_cs1 {i : gx_I} {a t n : Nat} {f : Nat → Int32} {x v : Int32} (hM : gx_ok M) (ha : gx_at M.2 pc = some i) (hi : i.1 = .castore) (ht : gx_TY[t]? = some .char) (hc : h.2.2 a = some (.inl (t, n, .inl f))) (hin : vp_in x n) (kk : gx_Go l F d M i.2.2.2.2.1 L st (gx_set h a (.inl (t, n, .inl (upd f x.toNatClampNeg (vp_nar .char v))))) P) : gx_Go l F d M pc L (.int v :: .int x :: .ref a :: st) h P := by
  obtain ⟨ins, len, c32, c64, nxt, tgt, aux, sgn⟩ := i
  dsimp only at hi kk
  subst hi
  obtain ⟨hdg, hn⟩ := gx_dec hM ha rfl
  dsimp only [gx_len] at hdg hn
  subst hn
  refine gx_liftW (e1 := .inl (t, n, .inl (upd f x.toNatClampNeg (vp_nar .char v)))) hc ?_ kk
  intro p e R s m args below meth c H locs cells slots Q ls hI hR k1
  have hcell : H[a]? = some (vp_cell (F.2.1 t) (n, .inl f)) := (hR.2.2.2.2 a _ hc).2
  refine W.cast hI.1 hI.2.1 hcell ((hI.2.2.2.2.2.2.2.1.1.2 t _ (gx_ty_at F ht)).1 n (fun j => .int (f j))) (fun q => by cases q) (by show ¬ (x < 0 ∨ (arrV _ _ _).slots.size ≤ _); rw [arrV_size]; exact hin) rfl rfl hdg fun H1 e1 z1 o1 => ?_
  refine k1 H1 _ z1 o1 ?_
  show H1[a]? = some (vp_cell _ _)
  rw [e1, vp_cell_i, vp_cell_i, arrV_store]
  congr 2
  funext q
  by_cases hq : q = x.toNatClampNeg
  · subst hq
    simp [updV, upd, vp_nar]
    try rfl
  · simp [updV, upd, hq]
theorem gx_ls1 {i : gx_I} {a t n : Nat} {f : Nat → Int64} {x : Int32} {v : Int64} (hM : gx_ok M) (ha : gx_at M.2 pc = some i) (hi : i.1 = .lastore) (ht : gx_TY[t]? = some .long) (hc : h.2.2 a = some (.inl (t, n, .inr (.inl f)))) (hin : vp_in x n) (kk : gx_Go l F d M i.2.2.2.2.1 L st (gx_set h a (.inl (t, n, .inr (.inl (vp_updL f x.toNatClampNeg v))))) P) : gx_Go l F d M pc L (.long v :: .int x :: .ref a :: st) h P := by
  obtain ⟨ins, len, c32, c64, nxt, tgt, aux, sgn⟩ := i
  dsimp only at hi kk
  subst hi
  obtain ⟨hdg, hn⟩ := gx_dec hM ha rfl
  dsimp only [gx_len] at hdg hn
  subst hn
  refine gx_liftW (e1 := .inl (t, n, .inr (.inl (vp_updL f x.toNatClampNeg v)))) hc ?_ kk
  intro p e R s m args below meth c H locs cells slots Q ls hI hR k1
  have hcell : H[a]? = some (vp_cell (F.2.1 t) (n, .inr (.inl f))) := (hR.2.2.2.2 a _ hc).2
  refine W.last hI.1 hI.2.1 hcell ((hI.2.2.2.2.2.2.2.1.1.2 t _ (gx_ty_at F ht)).1 n (fun j => .long (f j))) (fun q => by cases q) (by show ¬ (x < 0 ∨ (arrV _ _ _).slots.size ≤ _); rw [arrV_size]; exact hin) rfl rfl hdg fun H1 e1 z1 o1 => ?_
  refine k1 H1 _ z1 o1 ?_
  show H1[a]? = some (vp_cell _ _)
  rw [e1, vp_cell_l, vp_cell_l, arrV_store]
  congr 2
  funext q
  by_cases hq : q = x.toNatClampNeg
  · subst hq
    simp [updV, vp_updL]
  · simp [updV, vp_updL, hq]
theorem gx_as1 {i : gx_I} {a t n v ci : Nat} {vs : List Value} {r : vw_C} {f : Nat → Option Nat} {x : Int32} (hM : gx_ok M) (ha : gx_at M.2 pc = some i) (hi : i.1 = .aastore) (ht : gx_TY[t]? = some (.object r.1)) (hcr : gx_cl[ci]? = some r) (hc : h.2.2 a = some (.inl (t, n, .inr (.inr (.inr (.inr f)))))) (hv : h.2.2 v = some (.inr (ci, vs))) (hin : vp_in x n) (kk : gx_Go l F d M i.2.2.2.2.1 L st (gx_set h a (.inl (t, n, .inr (.inr (.inr (.inr (va_up f x.toNatClampNeg (some v)))))))) P) : gx_Go l F d M pc L (.ref v :: .int x :: .ref a :: st) h P := by
  obtain ⟨ins, len, c32, c64, nxt, tgt, aux, sgn⟩ := i
  dsimp only at hi kk
  subst hi
  obtain ⟨hdg, hn⟩ := gx_dec hM ha rfl
  dsimp only [gx_len] at hdg hn
  subst hn
  refine gx_liftW (e1 := .inl (t, n, .inr (.inr (.inr (.inr (va_up f x.toNatClampNeg (some v))))))) hc ?_ kk
  intro p e R s m args below meth c H locs cells slots Q ls hI hR k1
  have hcell : H[a]? = some (vp_cell (F.2.1 t) (n, .inr (.inr (.inr (.inr f))))) := (hR.2.2.2.2 a _ hc).2
  have hK := hI.2.2.2.2.2.2.2.1.1
  have hlt : x.toNatClampNeg < n := Nat.not_le.mp fun q => hin (Or.inr q)
  have h0 : ¬ x < 0 := fun q => hin (Or.inl q)
  obtain ⟨r', hr', cellV, g1, g2, g3, -⟩ := (hR.2.2.2.2 v _ hv).2
  have hcls := (hK.1 ci r hcr).2
  obtain ⟨kA, comp, k1', k2', k3', -⟩ := (hK.2 t _ (gx_ty_at F ht)).2
  have hcomp : comp = F.1.1 ci := Option.some.inj (k3'.symm.trans hcls.1)
  subst hcomp
  obtain ⟨kC, hkC, -⟩ := hcls.2
  refine W.aast hI.1 hI.2.1 hcell (fun q h => by cases h) (fun h => by cases h) k1' k2' rfl hkC ⟨h0, by show _ < (arrV _ _ _).slots.size; rw [arrV_size]; exact hlt⟩ g1 (fun q h => by rw [g3] at h; cases h) (by rw [g2]; exact hkC) (by rw [g2]; exact va_assign hcls) rfl rfl hdg fun H1 e1 z1 o1 => ?_
  refine k1 H1 _ z1 o1 ?_
  show H1[a]? = some (vp_cell _ _)
  rw [e1, vp_cell_q, vp_cell_q, arrV_store]
  congr 2
  funext q
  by_cases hq : q = x.toNatClampNeg
  · subst hq
    simp [updV, va_up, va_rf]
  · simp [updV, va_up, hq]
theorem gx_as0 {i : gx_I} {a t n : Nat} {C : String} {f : Nat → Option Nat} {x : Int32} (hM : gx_ok M) (ha : gx_at M.2 pc = some i) (hi : i.1 = .aastore) (ht : gx_TY[t]? = some (.object C)) (hc : h.2.2 a = some (.inl (t, n, .inr (.inr (.inr (.inr f)))))) (hin : vp_in x n) (kk : gx_Go l F d M i.2.2.2.2.1 L st (gx_set h a (.inl (t, n, .inr (.inr (.inr (.inr (va_up f x.toNatClampNeg none))))))) P) : gx_Go l F d M pc L (.null :: .int x :: .ref a :: st) h P := by
  obtain ⟨ins, len, c32, c64, nxt, tgt, aux, sgn⟩ := i
  dsimp only at hi kk
  subst hi
  obtain ⟨hdg, hn⟩ := gx_dec hM ha rfl
  dsimp only [gx_len] at hdg hn
  subst hn
  refine gx_liftW (e1 := .inl (t, n, .inr (.inr (.inr (.inr (va_up f x.toNatClampNeg none)))))) hc ?_ kk
  intro p e R s m args below meth c H locs cells slots Q ls hI hR k1
  have hcell : H[a]? = some (vp_cell (F.2.1 t) (n, .inr (.inr (.inr (.inr f))))) := (hR.2.2.2.2 a _ hc).2
  refine va_WaastN (C := C) hI.1 hI.2.1 hcell ((hI.2.2.2.2.2.2.2.1.1.2 t _ (gx_ty_at F ht)).1 n (fun j => va_rf (f j))) (fun h => by cases h) (by show ¬ (x < 0 ∨ (arrV _ _ _).slots.size ≤ _); rw [arrV_size]; exact hin) rfl rfl hdg fun H1 e1 z1 o1 => ?_
  refine k1 H1 _ z1 o1 ?_
  show H1[a]? = some (vp_cell _ _)
  rw [e1, vp_cell_q, vp_cell_q, arrV_store]
  congr 2
  funext q
  by_cases hq : q = x.toNatClampNeg
  · subst hq
    simp [updV, va_up, va_rf]
  · simp [updV, va_up, hq]
/-- the script is read -/
theorem gx_sl {i : gx_I} {x : Int32} (hM : gx_ok M) (ha : gx_at M.2 pc = some i) (hi : i.1 = .iaload) (hin : vp_in x F.2.2.2.2.2.1) (kk : gx_Go l F d M i.2.2.2.2.1 L (.int (F.2.2.2.2.2.2 x.toNatClampNeg) :: st) h P) : gx_Go l F d M pc L (.int x :: .ref F.2.2.2.2.1 :: st) h P := by
  obtain ⟨ins, len, c32, c64, nxt, tgt, aux, sgn⟩ := i
  dsimp only at hi kk
  subst hi
  obtain ⟨hdg, hn⟩ := gx_dec hM ha rfl
  dsimp only [gx_len] at hdg hn
  subst hn
  refine gx_liftR ?_ kk
  intro p e R s m args below meth c H locs cells slots Q ls hI hR k1
  obtain ⟨hlt, scr, h1, h2, h3, h4, h5⟩ := hI.2.2.2.2.2.2.2.1.2.2.1
  have hlt2 : x.toNatClampNeg < F.2.2.2.2.2.1 := Nat.not_le.mp fun q => hin (Or.inr q)
  exact W.iald (v := .int (F.2.2.2.2.2.2 x.toNatClampNeg)) hI.1 hI.2.1 (by rw [hR.2.2.1 _ hlt]; exact h1) h2 h3 (by rw [h4]; exact hin) (h5 _ hlt2) rfl rfl hdg k1
theorem gx_sn {i : gx_I} (hM : gx_ok M) (ha : gx_at M.2 pc = some i) (hi : i.1 = .arraylength) (kk : gx_Go l F d M i.2.2.2.2.1 L (.int (nI F.2.2.2.2.2.1) :: st) h P) : gx_Go l F d M pc L (.ref F.2.2.2.2.1 :: st) h P := by
  obtain ⟨ins, len, c32, c64, nxt, tgt, aux, sgn⟩ := i
  dsimp only at hi kk
  subst hi
  obtain ⟨hdg, hn⟩ := gx_dec hM ha rfl
  dsimp only [gx_len] at hdg hn
  subst hn
  refine gx_liftR ?_ kk
  intro p e R s m args below meth c H locs cells slots Q ls hI hR k1
  obtain ⟨hlt, scr, h1, h2, h3, h4, h5⟩ := hI.2.2.2.2.2.2.2.1.2.2.1
  exact W.alen (n := Int32.ofNat F.2.2.2.2.2.1) hI.1 hI.2.1 (by rw [hR.2.2.1 _ hlt]; exact h1) h2 (by rw [h4] <;> rfl) rfl rfl hdg k1
end GX3
