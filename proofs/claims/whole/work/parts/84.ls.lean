section LS0
variable {G : ck_E} {n q : Nat}
theorem hE_out (h : ¬ (n ≤ q ∧ q < n + 17)) : h_E G n q = G q := by
  unfold h_E sk_E rd_E
  rw [eset_ne, eset_ne, eset_ne, eset_ne, eset_ne, eset_ne, eset_ne, eset_ne, eset_ne, eset_ne, eset_ne, eset_ne, eset_ne, eset_ne, eset_ne, eset_ne, eset_ne]
  all_goals omega
theorem hE_0 : h_E G n (n + 16) = some (.inl (5, 8, .inr (.inr (.inr (.inr (fun _ => none)))))) := by
  unfold h_E sk_E rd_E
  rw [eset_eq]
  all_goals first | rfl | omega
theorem hE_1 : h_E G n (n + 15) = some (.inl (4, 6, .inr (.inr (.inr (.inr (fun _ => none)))))) := by
  unfold h_E sk_E rd_E
  rw [eset_ne, eset_eq]
  all_goals first | rfl | omega
theorem hE_2 : h_E G n (n + 8) = some (.inr (5, sk_fs (fun j => n + 9 + j) sk_0 (skR n none none))) := by
  unfold h_E sk_E rd_E
  rw [eset_ne, eset_ne, eset_eq]
  all_goals first | rfl | omega
theorem hE_3 : h_E G n (n + 9 + 5) = some (.inl (0, sk_ln 5, .inl (fun _ => 0))) := by
  unfold h_E sk_E rd_E
  rw [eset_ne, eset_ne, eset_ne, eset_eq]
  all_goals first | rfl | omega
theorem hE_4 : h_E G n (n + 9 + 4) = some (.inl (0, sk_ln 4, .inl (fun _ => 0))) := by
  unfold h_E sk_E rd_E
  rw [eset_ne, eset_ne, eset_ne, eset_ne, eset_eq]
  all_goals first | rfl | omega
theorem hE_5 : h_E G n (n + 9 + 3) = some (.inl (0, sk_ln 3, .inl (fun _ => 0))) := by
  unfold h_E sk_E rd_E
  rw [eset_ne, eset_ne, eset_ne, eset_ne, eset_ne, eset_eq]
  all_goals first | rfl | omega
theorem hE_6 : h_E G n (n + 9 + 2) = some (.inl (0, sk_ln 2, .inl (fun _ => 0))) := by
  unfold h_E sk_E rd_E
  rw [eset_ne, eset_ne, eset_ne, eset_ne, eset_ne, eset_ne, eset_eq]
  all_goals first | rfl | omega
theorem hE_7 : h_E G n (n + 9 + 1) = some (.inl (0, sk_ln 1, .inl (fun _ => 0))) := by
  unfold h_E sk_E rd_E
  rw [eset_ne, eset_ne, eset_ne, eset_ne, eset_ne, eset_ne, eset_ne, eset_eq]
  all_goals first | rfl | omega
theorem hE_8 : h_E G n (n + 9) = some (tC tk_0) := by
  unfold h_E sk_E rd_E
  rw [eset_ne, eset_ne, eset_ne, eset_ne, eset_ne, eset_ne, eset_ne, eset_ne, eset_eq]
  all_goals first | rfl | omega
theorem hE_9 : h_E G n (n + 7) = some (tC tk_0) := by
  unfold h_E sk_E rd_E
  rw [eset_ne, eset_ne, eset_ne, eset_ne, eset_ne, eset_ne, eset_ne, eset_ne, eset_ne, eset_eq]
  all_goals first | rfl | omega
theorem hE_10 : h_E G n (n) = some (.inr (4, rd_fs (fun j => n + 1 + j) (fun _ => 0) (fun _ => some (n + 1)))) := by
  unfold h_E sk_E rd_E
  rw [eset_ne, eset_ne, eset_ne, eset_ne, eset_ne, eset_ne, eset_ne, eset_ne, eset_ne, eset_ne, eset_eq]
  all_goals first | rfl | omega
theorem hE_11 : h_E G n (n + 1 + 5) = some (.inl (rd_kd 5, rd_ln 5, .inl (fun _ => 0))) := by
  unfold h_E sk_E rd_E
  rw [eset_ne, eset_ne, eset_ne, eset_ne, eset_ne, eset_ne, eset_ne, eset_ne, eset_ne, eset_ne, eset_ne, eset_eq]
  all_goals first | rfl | omega
theorem hE_12 : h_E G n (n + 1 + 4) = some (.inl (rd_kd 4, rd_ln 4, .inl (fun _ => 0))) := by
  unfold h_E sk_E rd_E
  rw [eset_ne, eset_ne, eset_ne, eset_ne, eset_ne, eset_ne, eset_ne, eset_ne, eset_ne, eset_ne, eset_ne, eset_ne, eset_eq]
  all_goals first | rfl | omega
theorem hE_13 : h_E G n (n + 1 + 3) = some (.inl (rd_kd 3, rd_ln 3, .inl (fun _ => 0))) := by
  unfold h_E sk_E rd_E
  rw [eset_ne, eset_ne, eset_ne, eset_ne, eset_ne, eset_ne, eset_ne, eset_ne, eset_ne, eset_ne, eset_ne, eset_ne, eset_ne, eset_eq]
  all_goals first | rfl | omega
theorem hE_14 : h_E G n (n + 1 + 2) = some (.inl (rd_kd 2, rd_ln 2, .inl (fun _ => 0))) := by
  unfold h_E sk_E rd_E
  rw [eset_ne, eset_ne, eset_ne, eset_ne, eset_ne, eset_ne, eset_ne, eset_ne, eset_ne, eset_ne, eset_ne, eset_ne, eset_ne, eset_ne, eset_eq]
  all_goals first | rfl | omega
theorem hE_15 : h_E G n (n + 1 + 1) = some (.inl (rd_kd 1, rd_ln 1, .inl (fun _ => 0))) := by
  unfold h_E sk_E rd_E
  rw [eset_ne, eset_ne, eset_ne, eset_ne, eset_ne, eset_ne, eset_ne, eset_ne, eset_ne, eset_ne, eset_ne, eset_ne, eset_ne, eset_ne, eset_ne, eset_eq]
  all_goals first | rfl | omega
theorem hE_16 : h_E G n (n + 1) = some (.inl (4, 6, .inr (.inr (.inr (.inr (fun _ => none)))))) := by
  unfold h_E sk_E rd_E
  rw [eset_ne, eset_ne, eset_ne, eset_ne, eset_ne, eset_ne, eset_ne, eset_ne, eset_ne, eset_ne, eset_ne, eset_ne, eset_ne, eset_ne, eset_ne, eset_ne, eset_eq]
  all_goals first | rfl | omega
theorem rel_0 {c : ck_S} {κ : Nat → Option Nat} (h5 : c.1 5 = 0) (h6 : c.1 6 = 0) (h7 : c.1 7 = 0) (h8 : c.1 8 = 0) (hk : c.2.2.1 = h_k κ n) (hE : c.2.2.2.1 = h_E G n) (hn : n + 17 ≤ c.2.2.2.2.1) : REL n (fun _ => 0, fun _ _ => 0) c := by
  refine ⟨0, 0, 0, fun _ => 0, sk_0, fun _ _ => 0, fun _ _ => 0, fun _ => none, fun _ => none, fun _ => none, none, none, ⟨?_, ?_, ?_, ?_, ?_, hn⟩, ?_, ?_, ?_, ⟨by decide, rfl, rfl, fun i hi => absurd hi (Nat.not_lt_zero _)⟩, ⟨h7, h8⟩, ⟨h5, by decide, rfl, Or.inl ⟨rfl, rfl, rfl⟩⟩, ⟨rfl, h6, by decide, fun i hi => absurd hi (Nat.not_lt_zero _), fun i j hi => absurd hi (Nat.not_lt_zero _)⟩, Or.inl ⟨rfl, rfl⟩⟩
  · rw [hk]; rfl
  · rw [hk]; rfl
  · rw [hk]; rfl
  · rw [hk]; rfl
  · rw [hk]; rfl
  · rw [hE]
    exact ⟨hE_10, hE_16, (fun j h1 h2 => by
    obtain rfl | rfl | rfl | rfl | rfl : j = 1 ∨ j = 2 ∨ j = 3 ∨ j = 4 ∨ j = 5 := by omega
    · exact hE_15
    · exact hE_14
    · exact hE_13
    · exact hE_12
    · exact hE_11)⟩
  · rw [hE]
    exact ⟨hE_2, ⟨_, hE_8⟩, (fun j h1 h2 => by
    obtain rfl | rfl | rfl | rfl | rfl : j = 1 ∨ j = 2 ∨ j = 3 ∨ j = 4 ∨ j = 5 := by omega
    · exact hE_7
    · exact hE_6
    · exact hE_5
    · exact hE_4
    · exact hE_3)⟩
  · rw [hE]
    exact ⟨⟨_, hE_9⟩, hE_1, hE_0⟩
end LS0
section LS1
variable {l : Launch} {F : gx_F} {P : gx_Z → Prop} {a : Nat} {c : ck_S} {h : gx_H}
theorem lw_less {E : ck_E} (hA : ck_At h_K a (fun _ => 0) c h) (hE : ∀ q x, E q = some x → c.2.2.2.1 q = some x) : ck_At h_K a (fun _ => 0) (c.1, c.2.1, c.2.2.1, E, c.2.2.2.2.1, c.2.2.2.2.2) h := by
  obtain ⟨a1, a2, a3, a4, a5, a6, a7⟩ := hA
  refine ⟨a1, a2, a3, a4, a5, fun n x hn => a6 n x (hE n x hn), fun n hn => ⟨?_, (a7 n hn).2⟩⟩
  show E n = none
  cases he : E n with
  | none => rfl
  | some x =>
    have h1 := hE n x he
    rw [(a7 n hn).1] at h1
    cases h1
def lw_c (N : Nat) : ck_S := (upd (upd (upd (upd (fun _ => 0) 5 0) 6 0) 7 0) 8 0, fun _ _ => 0, h_k (fun _ => none) (N + 1), h_E (fun _ => none) (N + 1), N + 1 + 17 + 1 + 31 + 1, 24185)
def lw_Bk (N : Nat) : Nat → Nat := fun k => N + 1 + 17 + 1 + mi_x k
theorem lw_J0 {N : Nat} {E : ck_E} (hE : E = eset (eset (mi_G (h_E (fun _ => none) (N + 1)) (N + 1 + 17 + 1) 31) (N + 1 + 17) (.inr (7, gm_fs (lw_Bk N) (fun _ => 0)))) (N + 1 + 17 + 1 + 31) (.inl (1, 1, gx_zr .long))) (hA : ck_At h_K N (fun _ => 0) ((lw_c N).1, (lw_c N).2.1, (lw_c N).2.2.1, E, N + 1 + 17 + 1 + 31 + 1, 24185) h) : lw_J N (N + 1 + 17) (N + 1 + 17 + 1 + 31) (lw_Bk N) (fun _ => 0, fun _ _ => 0) (lw_c N) (fun _ => 0) h := by
  have hb : E (N + 1 + 17) = some (.inr (7, gm_fs (lw_Bk N) (fun _ => 0))) := by
    rw [hE, eset_ne (by omega), eset_eq]
  have ho : E (N + 1 + 17 + 1 + 31) = some (.inl (1, 1, gx_zr .long)) := by
    rw [hE, eset_eq]
  have hx : ∀ j, j < 31 → E (N + 1 + 17 + 1 + j) = some (.inl (0, mi_l.getD j 0, gx_zr .int)) := fun j hj => by
    rw [hE, eset_ne (by omega), eset_ne (by omega)]
    show (if _ then _ else _) = _
    rw [if_pos (by omega), Nat.add_sub_cancel_left]
  have hin := fun q x e => (hA.2.2.2.2.2.1 q x e).1
  have hlo : ∀ q, N + 1 + 17 ≤ q → h_E (fun _ => none) (N + 1) q = none := fun q hq => hE_out (by omega)
  refine ⟨lw_less hA (E := h_E (fun _ => none) (N + 1)) fun q x e => ?_, ⟨hin _ _ hb, fun k hk => ?_, fun k j hk hj e => ?_⟩, hin _ _ ho, fun q hq => ?_, by omega, fun k hk => ?_⟩
  · have hq : q < N + 1 + 17 := Nat.not_le.mp fun z => by
      rw [hlo q z] at e
      cases e
    show E q = some x
    rw [hE, eset_ne (by omega), eset_ne (by omega)]
    show (if _ then _ else _) = _
    rw [if_neg (by omega)]
    exact e
  · obtain ⟨i1, i2⟩ := mi_ix k (mi_60 hk) hk
    have e := hin _ _ (hx (mi_x k) i1)
    rw [i2] at e
    exact e
  · have e' : N + 1 + 17 + 1 + mi_x k = N + 1 + 17 + 1 + mi_x j := e
    exact mi_inj k (mi_60 hk) j (mi_60 hj) hk hj (by omega)
  · have hq2 : N + 1 + 17 ≤ q ∧ q < N + 1 + 17 + 1 + 31 + 1 := by
      rcases hq with rfl | ⟨k, hk, rfl⟩ | rfl
      · omega
      · obtain ⟨i1, -⟩ := mi_ix k (mi_60 hk) hk
        show N + 1 + 17 ≤ N + 1 + 17 + 1 + mi_x k ∧ N + 1 + 17 + 1 + mi_x k < _
        omega
      · omega
    exact ⟨hq2.2, hlo q hq2.1, by omega⟩
  · obtain ⟨i1, -⟩ := mi_ix k (mi_60 hk) hk
    show N + 1 + 17 + 1 + 31 ≠ N + 1 + 17 + 1 + mi_x k
    omega
set_option maxRecDepth 100000 in
theorem lw_start {N : Nat} (kk : ∀ h, lw_J N (N + 1 + 17) (N + 1 + 17 + 1 + 31) (lw_Bk N) (fun _ => 0, fun _ _ => 0) (lw_c N) (fun _ => 0) h → REL (N + 1) (fun _ => 0, fun _ _ => 0) (lw_c N) → gx_Go l F 2048 m_Law_law 23 (lw_L F N (N + 1 + 17) (N + 1 + 17 + 1 + 31) (nI (4 * 0)) none none) [] h P) : gx_Go l F 2048 m_Law_law 0 [some (.ref F.2.2.2.2.1), none, none, none, none, none, none] [] (N, 0, fun _ => none) P := by
  refine gx_nw (ci := 0) (n := 9) (ts := gx_kd0) k_Law_law rfl rfl rfl rfl (by decide) rfl ?_
  refine gx_p (L' := [some (.ref F.2.2.2.2.1), none, none, none, none, none, none]) (st' := [.ref N, .ref N]) k_Law_law rfl rfl ?_
  have hA1 : ck_At h_K N (fun _ => 0) (fun _ => 0, fun _ _ => 0, fun _ => none, fun _ => none, N + 1, 0 + 9) (gx_push (N, 0, fun _ => none) 9 (.inr (0, gx_def gx_kd0))) := by
    refine ⟨rfl, rfl, if_pos rfl, fun k hk => absurd rfl hk, fun k j hk => absurd rfl hk, fun n c hn => (by cases hn), fun n hn => ⟨rfl, lw_no ?_⟩⟩
    have : N + 1 ≤ n := hn
    omega
  refine gx_in (M' := m_H_init) (As := []) (b := N) (rest := [.ref N]) k_Law_law rfl rfl rfl rfl rfl rfl (Nat.le_of_ble_eq_true rfl) (c_sp_H_init (d := 2044) h_ini _ hA1) ?_
  rintro ⟨y1, y2, y3⟩ ⟨s2, ⟨-, rfl⟩, hA2, -⟩
  have e1 : y1 = N + 1 + 17 := hA2.1
  subst e1
  refine gx_p (L' := [some (.ref F.2.2.2.2.1), some (.ref N), none, none, none, none, none]) (st' := []) k_Law_law rfl rfl ?_
  refine gx_nw (ci := 7) (n := 60) (ts := gx_kd7) k_Law_law rfl rfl rfl rfl (by decide) rfl ?_
  refine gx_p (L' := [some (.ref F.2.2.2.2.1), some (.ref N), none, none, none, none, none]) (st' := [.ref (N + 1 + 17), .ref (N + 1 + 17)]) k_Law_law rfl rfl ?_
  obtain ⟨hA3, -⟩ := ck_wN hA2 ck_Fr.rf (n := 60) (c := .inr (7, gx_def gx_kd7))
  refine gx_in (M' := m_Md_init) (As := []) (b := N + 1 + 17) (rest := [.ref (N + 1 + 17)]) k_Law_law rfl rfl rfl rfl rfl rfl (Nat.le_of_ble_eq_true rfl) (c_sp_Md_init (d := 2046) (md_ini (G := h_E (fun _ => none) (N + 1)) (b := N + 1 + 17) (n := N + 1 + 17 + 1) (by omega)) _ hA3) ?_
  rintro ⟨y1, y2', y3'⟩ ⟨s4, ⟨-, rfl⟩, hA4, -⟩
  have e1 : y1 = N + 1 + 17 + 1 + 31 := hA4.1
  subst e1
  refine gx_p (L' := [some (.ref F.2.2.2.2.1), some (.ref N), some (.ref (N + 1 + 17)), none, none, none, none]) (st' := []) k_Law_law rfl rfl ?_
  refine gx_p (L' := [some (.ref F.2.2.2.2.1), some (.ref N), some (.ref (N + 1 + 17)), none, none, none, none]) (st' := [.int 1]) k_Law_law rfl rfl ?_
  refine gx_na (at_ := .long) (t := 1) (n := 1) k_Law_law rfl rfl rfl rfl rfl (by decide) ?_
  obtain ⟨hA5, -⟩ := ck_wN hA4 ck_Fr.rf (n := 1) (c := .inl (1, 1, gx_zr .long))
  refine gx_p (L' := [some (.ref F.2.2.2.2.1), some (.ref N), some (.ref (N + 1 + 17)), some (.ref (N + 1 + 17 + 1 + 31)), none, none, none]) (st' := []) k_Law_law rfl rfl ?_
  refine gx_p (L' := [some (.ref F.2.2.2.2.1), some (.ref N), some (.ref (N + 1 + 17)), some (.ref (N + 1 + 17 + 1 + 31)), none, none, none]) (st' := [.int 0]) k_Law_law rfl rfl ?_
  refine gx_p (L' := [some (.ref F.2.2.2.2.1), some (.ref N), some (.ref (N + 1 + 17)), some (.ref (N + 1 + 17 + 1 + 31)), some (.int 0), none, none]) (st' := []) k_Law_law rfl rfl ?_
  exact kk _ (lw_J0 rfl hA5) (rel_0 rfl rfl rfl rfl rfl rfl (by show N + 1 + 17 ≤ N + 1 + 17 + 1 + 31 + 1; omega))
theorem lw_all {N : Nat} (htr : ∀ e, l.admits e → e.platform.stackTraces = false) (hn : F.2.2.2.2.2.1 ≤ 2048) : gx_Go l F 2048 m_Law_law 0 [some (.ref F.2.2.2.2.1), none, none, none, none, none, none] [] (N, 0, fun _ => none) (lw_Pz (N + 49300) 400000) := by
  refine lw_start fun h hJ hR => ?_
  refine lw_loop htr hn 512 0 _ _ _ h none none (by omega) (by omega) hJ hR ?_ ?_
  · show N + 1 + 17 + 1 + 31 + 1 + 12 * 0 + 96 * 512 ≤ N + 49300
    omega
  · show 24185 + 72 * 0 + 576 * 512 ≤ 400000
    omega
end LS1
