theorem br_X : ∀ w ∈ thX, w ∈ lw_tbl := List.forall_mem_cons.mpr ⟨lw_inT (q_4 (List.mem_of_getElem? (i := 25) rfl)), List.forall_mem_cons.mpr ⟨lw_inT (q_4 (List.mem_of_getElem? (i := 36) rfl)), List.forall_mem_cons.mpr ⟨lw_inT (q_4 (List.mem_of_getElem? (i := 7) rfl)), List.forall_mem_cons.mpr ⟨lw_inT (q_4 (List.mem_of_getElem? (i := 9) rfl)), List.forall_mem_cons.mpr ⟨lw_inT (q_4 (List.mem_of_getElem? (i := 11) rfl)), fun _ h => absurd h List.not_mem_nil⟩⟩⟩⟩⟩
theorem br_W : lm_W ∈ lw_tbl := lw_inT (q_3 (List.mem_of_getElem? (i := 9) rfl))
theorem br_S1 : Cond.laysStatic Bundle.tN "UNASSIGNED_STACK" Bundle.steD ∈ lw_tbl := lw_inT (q_4 (List.mem_of_getElem? (i := 30) rfl))
theorem br_S2 : Cond.laysStatic Bundle.tN "SUPPRESSED_SENTINEL" Bundle.listD ∈ lw_tbl := lw_inT (q_4 (List.mem_of_getElem? (i := 32) rfl))
theorem br_SR : Cond.stringRef "SignalHouse" 77 "the text has a fault" ∈ lw_tbl := lw_inT (q_4 (List.mem_of_getElem? (i := 42) rfl))
section BR
variable {s : State} {args : Array Value}
theorem br_ins (hT : ∀ w ∈ gx_Ts, w.before args s = true) : ∀ (c : Nat) (q : vw_C), gx_cl[c]? = some q → (Cond.instantiable q.1 q.2.2).before args s = true := by
  intro c q hq
  match c, hq with
  | 0, hq => cases hq; exact hT _ wt_131
  | 1, hq => cases hq; exact hT _ wt_301
  | 2, hq => cases hq; exact hT _ wt_573
  | 3, hq => cases hq; exact hT _ wt_295
  | 4, hq => cases hq; exact hT _ wt_139
  | 5, hq => cases hq; exact hT _ wt_210
  | 6, hq => cases hq; exact hT _ wt_183
  | 7, hq => cases hq; exact hT _ wt_745
  | n + 8, hq => cases hq
theorem br_cls (hT : ∀ w ∈ gx_Ts, w.before args s = true) : ∃ D : va_G, ∀ (c : Nat) (q : vw_C), gx_cl[c]? = some q → u_Kn s q.1 q.2.1 q.2.2 (D.1 c) (D.2 c) := by
  have h : ∀ c : Nat, ∃ p : ClassId × (Nat → Nat), ∀ q : vw_C, gx_cl[c]? = some q → u_Kn s q.1 q.2.1 q.2.2 p.1 p.2 := by
    intro c
    cases hc : gx_cl[c]? with
    | none => exact ⟨(0, fun _ => 0), fun q hq => by cases hq⟩
    | some q =>
      obtain ⟨cC, iS, hk⟩ := u_known (ws := gx_Ts) hT (gx_cl_ws hc) (br_ins hT c q hc)
      exact ⟨(cC, iS), fun q' hq => by cases hq; exact hk⟩
  obtain ⟨D, hD⟩ := Classical.axiomOfChoice h
  exact ⟨(fun c => (D c).1, fun c => (D c).2), fun c q hq => hD c q hq⟩
theorem br_at {ty : FieldType} (h : (Cond.arrayClass ty).before args s = true) (hn : ∀ C, ty ≠ .object C) : ∃ cA, ArrOfT s cA ty ∧ va_RA s cA ty := by
  obtain ⟨c, k, comp, h1, h2, h3⟩ := Cond.arrayClass_spec (args := args) (first := s) (o := none) (s := s) (idx := []) h
  refine ⟨c, fun N z => ⟨(fun k h => by cases h), k, h2, comp, h3⟩, ?_⟩
  cases ty with
  | object C => exact absurd rfl (hn C)
  | _ => exact h1
theorem br_ao {C : String} (h : (Cond.arrayOver (.object C)).before args s = true) : ∃ cA, ArrOfT s cA (.object C) ∧ va_RA s cA (.object C) := by
  obtain ⟨comp, c, k, h1, -, h2, h3, h4⟩ := Cond.arrayOver_spec (args := args) (first := s) (o := none) (s := s) (idx := []) h
  exact ⟨c, fun N z => ⟨(fun k h => by cases h), k, h2, comp, h3⟩, k, comp, h2, h3, h1, h4⟩
theorem br_arr (hT : ∀ w ∈ gx_Ts, w.before args s = true) (hN : ∀ w ∈ gx_NW, w.before args s = true) : ∃ ai : Nat → ClassId, ∀ (t : Nat) (ty : FieldType), gx_TY[t]? = some ty → ArrOfT s (ai t) ty ∧ va_RA s (ai t) ty := by
  have h : ∀ t : Nat, ∃ cA : ClassId, ∀ ty : FieldType, gx_TY[t]? = some ty → ArrOfT s cA ty ∧ va_RA s cA ty := by
    intro t
    match t with
    | 0 =>
      obtain ⟨c, hc⟩ := br_at (hT _ wt_181) (fun C h => by cases h)
      exact ⟨c, fun ty hty => by cases hty; exact hc⟩
    | 1 =>
      obtain ⟨c, hc⟩ := br_at (hT _ wt_1130) (fun C h => by cases h)
      exact ⟨c, fun ty hty => by cases hty; exact hc⟩
    | 2 =>
      obtain ⟨c, hc⟩ := br_at (hT _ wt_180) (fun C h => by cases h)
      exact ⟨c, fun ty hty => by cases hty; exact hc⟩
    | 3 =>
      obtain ⟨c, hc⟩ := br_at (hT _ wt_743) (fun C h => by cases h)
      exact ⟨c, fun ty hty => by cases hty; exact hc⟩
    | 4 =>
      obtain ⟨c, hc⟩ := br_ao (hN _ nt_4)
      exact ⟨c, fun ty hty => by cases hty; exact hc⟩
    | 5 =>
      obtain ⟨c, hc⟩ := br_ao (hN _ nt_5)
      exact ⟨c, fun ty hty => by cases hty; exact hc⟩
    | n + 6 => exact ⟨0, fun ty hty => by cases hty⟩
  exact Classical.axiomOfChoice h
theorem br_ty {F : gx_F} (h : ∀ (t : Nat) (ty : FieldType), gx_TY[t]? = some ty → ArrOfT s (F.2.1 t) ty ∧ va_RA s (F.2.1 t) ty) : ∀ (k : Nat) (q : ClassId × FieldType), (gx_ty F)[k]? = some q → ArrOfT s q.1 q.2 ∧ va_RA s q.1 q.2 := by
  intro k q hq
  cases hk : gx_TY[k]? with
  | none =>
    simp [gx_ty, List.getElem?_map, List.getElem?_zipIdx, hk] at hq
  | some ty =>
    rw [gx_ty_at F hk] at hq
    cases hq
    exact h k ty hk
theorem br_nw (hN : ∀ w ∈ gx_NW, w.before args s = true) : ∀ w ∈ gx_NW, va_Nw w s := by
  intro w hw
  have h1 := gx_nwok w hw
  have h2 := hN w hw
  unfold gx_nwb at h1
  split at h1
  · exact va_Nw.of rfl h2
  · exact va_Nw.of rfl h2
  · exact va_AO.of h2
  · exact va_Nw.of rfl h2
  · cases h1
theorem br_Z (hts : ∀ w ∈ lw_tbl, w.before args s = true) (h1 : (Cond.isRef (.static Bundle.tN "UNASSIGNED_STACK" Bundle.steD)).before args s = true) (h2 : (Cond.isRef (.static Bundle.tN "SUPPRESSED_SENTINEL" Bundle.listD)).before args s = true) (h3 : (Cond.exactly (.string "SignalHouse" 77) "java/lang/String").before args s = true) : th_Z s.heap s := by
  have hX := fun w hw => hts w (br_X w hw)
  refine ⟨?_, va_Nw.of rfl (hts _ br_W), ?_, ?_⟩
  · refine List.forall_mem_cons.mpr ⟨?_, List.forall_mem_cons.mpr ⟨?_, List.forall_mem_cons.mpr ⟨?_, List.forall_mem_cons.mpr ⟨?_, List.forall_mem_cons.mpr ⟨?_, fun _ h => absurd h List.not_mem_nil⟩⟩⟩⟩⟩
    · exact va_Nw.of rfl (hX _ (List.mem_of_getElem? (i := 0) rfl))
    · exact va_Nw.of rfl (hX _ (List.mem_of_getElem? (i := 1) rfl))
    · exact va_Nw.of rfl (hX _ (List.mem_of_getElem? (i := 2) rfl))
    · exact va_Nw.of rfl (hX _ (List.mem_of_getElem? (i := 3) rfl))
    · exact va_Nw.of rfl (hX _ (List.mem_of_getElem? (i := 4) rfl))
  · refine th_move (a := args) (u := s) (Vm.Alike.refl _) (fun _ _ h _ => h) ?_
    exact List.forall_mem_cons.mpr ⟨hts _ br_S1, List.forall_mem_cons.mpr ⟨hts _ br_S2, List.forall_mem_cons.mpr ⟨h1, List.forall_mem_cons.mpr ⟨h2, fun _ h => absurd h List.not_mem_nil⟩⟩⟩⟩
  · obtain ⟨q0, _, _, _, e1, -⟩ := Cond.exactly_spec h3
    exact ⟨q0, vk_R.of (hts _ br_SR) e1⟩
end BR
