section LL0
variable {l : Launch} {F : gx_F} {P : gx_Z → Prop} {a b o n0 : Nat} {B : Nat → Nat} {σ σ' : gm_S} {c c' : ck_S} {f : Nat → Int64} {h : gx_H} {iv : Int32} {x5 x6 : Option Value}
theorem lw_cmp (x : Int64) : lg_cmp (vp_updL f 0 x (Int32.toNatClampNeg 0)) x = 0 := by
  have h1 : vp_updL f 0 x (Int32.toNatClampNeg 0) = x := rfl
  rw [h1]
  simp [lg_cmp]
set_option maxRecDepth 100000 in
theorem lw_m0 {y : Int32} (hJ : lw_J a b o B σ c f h) (e1 : sp_Md_module σ = some (y, σ')) (e2 : sp_H_module c = some (y, c')) (e0 : σ'.1 0 = 0) (hR : REL n0 σ' c') (hB : lw_B σ c σ' c') (kk : lw_Nx l F P a b o n0 B iv σ c) : gx_Go l F 2048 m_Law_law 177 (lw_L F a b o iv x5 x6) [] h P := by
  show gx_Go l F 2048 m_Law_law 177 [some (.ref F.2.2.2.2.1), some (.ref a), some (.ref b), some (.ref o), some (.int iv), x5, x6] [] h P
  refine gx_p (L' := [some (.ref F.2.2.2.2.1), some (.ref a), some (.ref b), some (.ref o), some (.int iv), x5, x6]) (st' := [.ref a]) k_Law_law rfl rfl ?_
  refine gx_p (L' := [some (.ref F.2.2.2.2.1), some (.ref a), some (.ref b), some (.ref o), some (.int iv), x5, x6]) (st' := [.ref o, .ref a]) k_Law_law rfl rfl ?_
  obtain ⟨v, h1, hm, s', ⟨hv, hs⟩, p2, p3⟩ := c_sp_H_module (l := l) (F := F) (d := 1883) e2 h hJ.1
  subst hv
  subst hs
  have hJ0 := hJ.cls p2 p3
  refine lm_is (d := 2047) (rest := []) rfl rfl (Nat.le_of_ble_eq_true rfl) (lm_norm (d := 2046) hm hJ.1.2.2.1 hJ0.2.2.1) ?_
  have hJ1 := hJ0.out (f' := vp_updL f 0 y.toInt64)
  refine gx_p (L' := [some (.ref F.2.2.2.2.1), some (.ref a), some (.ref b), some (.ref o), some (.int iv), some (.int 0), x6]) (st' := []) k_Law_law rfl rfl ?_
  refine gx_p (L' := [some (.ref F.2.2.2.2.1), some (.ref a), some (.ref b), some (.ref o), some (.int iv), some (.int 0), x6]) (st' := [.ref b]) k_Law_law rfl rfl ?_
  refine lw_ivM (d := 2047) (M' := m_Md_module) (As := []) (rest := []) rfl rfl rfl rfl rfl rfl (Nat.le_of_ble_eq_true rfl) hJ1 (c_sp_Md_module (d := 1904) e1) ?_
  intro h2 hJ2
  refine gx_p (L' := [some (.ref F.2.2.2.2.1), some (.ref a), some (.ref b), some (.ref o), some (.int iv), some (.int 0), some (.int y)]) (st' := []) k_Law_law rfl rfl ?_
  refine gx_p (L' := [some (.ref F.2.2.2.2.1), some (.ref a), some (.ref b), some (.ref o), some (.int iv), some (.int 0), some (.int y)]) (st' := [.ref b]) k_Law_law rfl rfl ?_
  refine lw_ivM (d := 2047) (M' := m_Md_thrown) (As := []) (rest := []) (x := σ'.1 0) (σ' := σ') rfl rfl rfl rfl rfl rfl (Nat.le_of_ble_eq_true rfl) hJ2 (c_sp_Md_thrown (d := 2047) (r := (σ'.1 0, σ')) rfl) ?_
  intro h3 hJ3
  refine gx_p (L' := [some (.ref F.2.2.2.2.1), some (.ref a), some (.ref b), some (.ref o), some (.int iv), some (.int 0), some (.int y)]) (st' := [.int 0, .int (σ'.1 0)]) k_Law_law rfl rfl ?_
  refine gx_ic k_Law_law rfl rfl rfl (fun _ => ?_) (fun q => absurd e0 q)
  refine gx_p (L' := [some (.ref F.2.2.2.2.1), some (.ref a), some (.ref b), some (.ref o), some (.int iv), some (.int 0), some (.int y)]) (st' := [.int 0]) k_Law_law rfl rfl ?_
  refine gx_if k_Law_law rfl rfl rfl (fun q => absurd rfl q) (fun _ => ?_)
  refine gx_p (L' := [some (.ref F.2.2.2.2.1), some (.ref a), some (.ref b), some (.ref o), some (.int iv), some (.int 0), some (.int y)]) (st' := [.ref o]) k_Law_law rfl rfl ?_
  refine gx_p (L' := [some (.ref F.2.2.2.2.1), some (.ref a), some (.ref b), some (.ref o), some (.int iv), some (.int 0), some (.int y)]) (st' := [.int 0, .ref o]) k_Law_law rfl rfl ?_
  refine gx_ll1 (x := 0) (n := 1) (f := vp_updL f 0 y.toInt64) k_Law_law rfl rfl rfl hJ3.2.2.1 lm_vp ?_
  refine gx_p (L' := [some (.ref F.2.2.2.2.1), some (.ref a), some (.ref b), some (.ref o), some (.int iv), some (.int 0), some (.int y)]) (st' := [.int y, .long (vp_updL f 0 y.toInt64 (Int32.toNatClampNeg 0))]) k_Law_law rfl rfl ?_
  refine gx_p (L' := [some (.ref F.2.2.2.2.1), some (.ref a), some (.ref b), some (.ref o), some (.int iv), some (.int 0), some (.int y)]) (st' := [.long y.toInt64, .long (vp_updL f 0 y.toInt64 (Int32.toNatClampNeg 0))]) k_Law_law rfl rfl ?_
  refine gx_p (L' := [some (.ref F.2.2.2.2.1), some (.ref a), some (.ref b), some (.ref o), some (.int iv), some (.int 0), some (.int y)]) (st' := [.int (lg_cmp (vp_updL f 0 y.toInt64 (Int32.toNatClampNeg 0)) y.toInt64)]) k_Law_law rfl rfl ?_
  refine gx_if k_Law_law rfl rfl rfl (fun _ => ?_) (fun q => absurd (lw_cmp _) q)
  refine gx_j k_Law_law rfl rfl ?_
  exact kk σ' s' _ h3 _ _ hJ3 hR hB
set_option maxRecDepth 100000 in
theorem lw_m1 {y v : Int32} (htr : ∀ e, l.admits e → e.platform.stackTraces = false) (hJ : lw_J a b o B σ c f h) (e1 : sp_Md_module σ = some (y, σ')) (e2 : sp_H_thrown c = some (v, c')) (e0 : σ'.1 0 = 1) (hR : REL n0 σ' c') (hB : lw_B σ c σ' (lw_up c' 1 6)) (kk : lw_Nx l F P a b o n0 B iv σ c) : gx_Go l F 2048 m_Law_law 177 (lw_L F a b o iv x5 x6) [] h P := by
  show gx_Go l F 2048 m_Law_law 177 [some (.ref F.2.2.2.2.1), some (.ref a), some (.ref b), some (.ref o), some (.int iv), x5, x6] [] h P
  refine gx_p (L' := [some (.ref F.2.2.2.2.1), some (.ref a), some (.ref b), some (.ref o), some (.int iv), x5, x6]) (st' := [.ref a]) k_Law_law rfl rfl ?_
  refine gx_p (L' := [some (.ref F.2.2.2.2.1), some (.ref a), some (.ref b), some (.ref o), some (.int iv), x5, x6]) (st' := [.ref o, .ref a]) k_Law_law rfl rfl ?_
  obtain ⟨h1, p2, p3, g1, g2, hm⟩ := th_met (F := F) (d := 1883) htr e2 hJ.1
  have hJ0 := hJ.cls p2 p3
  refine lm_is (d := 2047) (rest := []) rfl rfl (Nat.le_of_ble_eq_true rfl) (lm_thr (d := 2046) (by show h.1 ≤ h1.1 + 1; omega) (by show h.2.1 ≤ h1.2.1 + 6; omega) hm hJ.1.2.2.1) ?_
  have hJ1 := hJ0.bump
  refine gx_p (L' := [some (.ref F.2.2.2.2.1), some (.ref a), some (.ref b), some (.ref o), some (.int iv), some (.int 1), x6]) (st' := []) k_Law_law rfl rfl ?_
  refine gx_p (L' := [some (.ref F.2.2.2.2.1), some (.ref a), some (.ref b), some (.ref o), some (.int iv), some (.int 1), x6]) (st' := [.ref b]) k_Law_law rfl rfl ?_
  refine lw_ivM (d := 2047) (M' := m_Md_module) (As := []) (rest := []) rfl rfl rfl rfl rfl rfl (Nat.le_of_ble_eq_true rfl) hJ1 (c_sp_Md_module (d := 1904) e1) ?_
  intro h2 hJ2
  refine gx_p (L' := [some (.ref F.2.2.2.2.1), some (.ref a), some (.ref b), some (.ref o), some (.int iv), some (.int 1), some (.int y)]) (st' := []) k_Law_law rfl rfl ?_
  refine gx_p (L' := [some (.ref F.2.2.2.2.1), some (.ref a), some (.ref b), some (.ref o), some (.int iv), some (.int 1), some (.int y)]) (st' := [.ref b]) k_Law_law rfl rfl ?_
  refine lw_ivM (d := 2047) (M' := m_Md_thrown) (As := []) (rest := []) (x := σ'.1 0) (σ' := σ') rfl rfl rfl rfl rfl rfl (Nat.le_of_ble_eq_true rfl) hJ2 (c_sp_Md_thrown (d := 2047) (r := (σ'.1 0, σ')) rfl) ?_
  intro h3 hJ3
  refine gx_p (L' := [some (.ref F.2.2.2.2.1), some (.ref a), some (.ref b), some (.ref o), some (.int iv), some (.int 1), some (.int y)]) (st' := [.int 1, .int (σ'.1 0)]) k_Law_law rfl rfl ?_
  refine gx_ic k_Law_law rfl rfl rfl (fun _ => ?_) (fun q => absurd e0 q)
  refine gx_p (L' := [some (.ref F.2.2.2.2.1), some (.ref a), some (.ref b), some (.ref o), some (.int iv), some (.int 1), some (.int y)]) (st' := [.int 1]) k_Law_law rfl rfl ?_
  refine gx_if k_Law_law rfl rfl rfl (fun _ => ?_) (fun q => absurd q (by decide))
  refine gx_j k_Law_law rfl rfl ?_
  exact kk σ' (lw_up c' 1 6) _ h3 _ _ hJ3 (REL_up hR) hB
theorem lw_c1 (htr : ∀ e, l.admits e → e.platform.stackTraces = false) (hJ : lw_J a b o B σ c f h) (hR : REL n0 σ c) (kk : lw_Nx l F P a b o n0 B iv σ c) : gx_Go l F 2048 m_Law_law 177 (lw_L F a b o iv x5 x6) [] h P := by
  obtain ⟨y, σ', e1, e3, ⟨e0, c', e2, e4, e5⟩ | ⟨e0, v, c', e2, e4, e5⟩⟩ := module_k hR
  · exact lw_m0 hJ e1 e2 e0 e4 (lw_Bm e3 e5).1 kk
  · exact lw_m1 htr hJ e1 e2 e0 e4 (lw_Bm e3 e5).2 kk
theorem lw_15 (x : Int32) : (x &&& 15).toInt = ((x.toBitVec &&& 15#32).toNat : Int) ∧ (x.toBitVec &&& 15#32).toNat ≤ 15 := by
  have h1 : (x.toBitVec &&& 15#32).toNat ≤ 15 := by
    rw [BitVec.toNat_and]
    exact Nat.and_le_right
  refine ⟨?_, h1⟩
  show (x &&& 15).toBitVec.toInt = _
  rw [Int32.toBitVec_and]
  show (x.toBitVec &&& 15#32).toInt = _
  rw [BitVec.toInt_eq_toNat_of_lt (by omega)]
set_option maxRecDepth 100000 in
theorem lw_sw (htr : ∀ e, l.admits e → e.platform.stackTraces = false) (hJ : lw_J a b o B σ c f h) (hR : REL n0 σ c) (hin : lw_in F iv) (kk : lw_Nx l F P a b o n0 B iv σ c) (x : Int32) : gx_Go l F 2048 m_Law_law 39 (lw_L F a b o iv x5 x6) [.int (x &&& 15)] h P := by
  obtain ⟨h1, h2⟩ := lw_15 x
  generalize (x.toBitVec &&& 15#32).toNat = k at h1 h2
  generalize x &&& 15 = w at h1
  have go : ∀ (off : Int) (tgt : Nat), k ≤ 13 → (#[69, 138, 182, 207, 244, 269, 306, 331, 356, 393, 418, 467, 516, 541] : Array Int)[k]? = some off → (39 : Int) + off = (tgt : Int) → gx_Go l F 2048 m_Law_law tgt (lw_L F a b o iv x5 x6) [] h P → gx_Go l F 2048 m_Law_law 39 (lw_L F a b o iv x5 x6) [.int w] h P := by
    intro off tgt hk ho ht hgo
    exact gx_tI k_Law_law rfl rfl (by rw [h1]; omega) (by rw [h1]; omega) (by rw [h1]; exact ho) ht hgo
  have hk : k = 0 ∨ k = 1 ∨ k = 2 ∨ k = 3 ∨ k = 4 ∨ k = 5 ∨ k = 6 ∨ k = 7 ∨ k = 8 ∨ k = 9 ∨ k = 10 ∨ k = 11 ∨ k = 12 ∨ k = 13 ∨ 14 ≤ k := by omega
  rcases hk with rfl | rfl | rfl | rfl | rfl | rfl | rfl | rfl | rfl | rfl | rfl | rfl | rfl | rfl | hk
  · exact go 69 108 (by decide) rfl rfl (lw_c0 hJ hR hin kk)
  · exact go 138 177 (by decide) rfl rfl (lw_c1 htr hJ hR kk)
  · exact go 182 221 (by decide) rfl rfl (lw_c2 hJ hR hin kk)
  · exact go 207 246 (by decide) rfl rfl (lw_c3 hJ hR hin kk)
  · exact go 244 283 (by decide) rfl rfl (lw_c4 hJ hR hin kk)
  · exact go 269 308 (by decide) rfl rfl (lw_c5 hJ hR hin kk)
  · exact go 306 345 (by decide) rfl rfl (lw_c6 hJ hR hin kk)
  · exact go 331 370 (by decide) rfl rfl (lw_c7 hJ hR hin kk)
  · exact go 356 395 (by decide) rfl rfl (lw_c8 hJ hR hin kk)
  · exact go 393 432 (by decide) rfl rfl (lw_c9 hJ hR hin kk)
  · exact go 418 457 (by decide) rfl rfl (lw_c10 hJ hR hin kk)
  · exact go 467 506 (by decide) rfl rfl (lw_c11 hJ hR hin kk)
  · exact go 516 555 (by decide) rfl rfl (lw_c12 hJ hR hin kk)
  · exact go 541 580 (by decide) rfl rfl (lw_c13 hJ hR hin kk)
  · refine gx_tO (tgt := 605) k_Law_law rfl rfl (Or.inr (by rw [h1]; omega)) rfl ?_
    exact kk σ c f h x5 x6 hJ hR ⟨by omega, by omega⟩
end LL0
section LL1
variable {l : Launch} {F : gx_F} {a b o n0 : Nat} {B : Nat → Nat}
theorem i4 {k : Nat} (hk : 4 * k + 4 ≤ 2048) : nI (4 * k) + 4 = nI (4 * (k + 1)) ∧ nI (4 * k) + 1 = nI (4 * k + 1) ∧ nI (4 * k) + 2 = nI (4 * k + 2) ∧ nI (4 * k) + 3 = nI (4 * k + 3) := by
  have e : ∀ j : Nat, nI (4 * k) + nI j = nI (4 * k + j) := fun j => (Int32.ofNat_add _ _).symm
  exact ⟨e 4, e 1, e 2, e 3⟩
theorem lw_vp {i n : Nat} (h : i < n) (hn : n ≤ 2048) : vp_in (nI i) n := by
  intro hq
  rcases hq with hq | hq
  · exact nI_pos (by omega) hq
  · rw [nI_clamp (by omega)] at hq
    omega
def lw_Pz (N Z : Nat) : gx_Z → Prop := fun r => r.1 = .inl (some (.int 1)) ∧ r.2.1 ≤ N ∧ r.2.2.1 ≤ Z
theorem lw_sub {n : Nat} (hn : n ≤ 2048) (k : Nat) (hk : 4 * k ≤ 2048) : (nI n - 4 < nI (4 * k)) ↔ n < 4 * k + 4 := by
  rw [Int32.lt_iff_toInt_lt, nI_toInt (n := 4 * k) (by omega)]
  have h1 : (nI n - 4).toInt = (n : Int) - 4 := by
    have e : nI n - 4 = Int32.ofInt ((n : Int) - 4) := by
      rw [Int32.ofInt_sub]
      rfl
    rw [e, Int32.toInt_ofInt_of_le (by omega) (by omega)]
  rw [h1]
  omega
end LL1
section LLH
variable {l : Launch} {F : gx_F} {P : gx_Z → Prop} {a b o : Nat} {h : gx_H} {iv : Int32} {x5 x6 : Option Value}
set_option maxRecDepth 100000 in
theorem lw_next (kk : gx_Go l F 2048 m_Law_law 23 (lw_L F a b o (iv + 4) x5 x6) [] h P) : gx_Go l F 2048 m_Law_law 605 (lw_L F a b o iv x5 x6) [] h P := by
  show gx_Go l F 2048 m_Law_law 605 [some (.ref F.2.2.2.2.1), some (.ref a), some (.ref b), some (.ref o), some (.int iv), x5, x6] [] h P
  refine gx_p (L' := [some (.ref F.2.2.2.2.1), some (.ref a), some (.ref b), some (.ref o), some (.int (iv + 4)), x5, x6]) (st' := []) k_Law_law rfl rfl ?_
  exact gx_j k_Law_law rfl rfl kk
set_option maxRecDepth 100000 in
theorem lw_head {k : Nat} (hn : F.2.2.2.2.2.1 ≤ 2048) (hk : 4 * k ≤ F.2.2.2.2.2.1) (k1 : F.2.2.2.2.2.1 < 4 * k + 4 → P (.inl (some (.int 1)), h)) (k2 : 4 * k + 4 ≤ F.2.2.2.2.2.1 → gx_Go l F 2048 m_Law_law 39 (lw_L F a b o (nI (4 * k)) x5 x6) [.int (F.2.2.2.2.2.2 (nI (4 * k)).toNatClampNeg &&& 15)] h P) : gx_Go l F 2048 m_Law_law 23 (lw_L F a b o (nI (4 * k)) x5 x6) [] h P := by
  show gx_Go l F 2048 m_Law_law 23 [some (.ref F.2.2.2.2.1), some (.ref a), some (.ref b), some (.ref o), some (.int (nI (4 * k))), x5, x6] [] h P
  refine gx_p (L' := [some (.ref F.2.2.2.2.1), some (.ref a), some (.ref b), some (.ref o), some (.int (nI (4 * k))), x5, x6]) (st' := [.int (nI (4 * k))]) k_Law_law rfl rfl ?_
  refine gx_p (L' := [some (.ref F.2.2.2.2.1), some (.ref a), some (.ref b), some (.ref o), some (.int (nI (4 * k))), x5, x6]) (st' := [.ref F.2.2.2.2.1, .int (nI (4 * k))]) k_Law_law rfl rfl ?_
  refine gx_sn k_Law_law rfl rfl ?_
  refine gx_p (L' := [some (.ref F.2.2.2.2.1), some (.ref a), some (.ref b), some (.ref o), some (.int (nI (4 * k))), x5, x6]) (st' := [.int 4, .int (nI F.2.2.2.2.2.1), .int (nI (4 * k))]) k_Law_law rfl rfl ?_
  refine gx_p (L' := [some (.ref F.2.2.2.2.1), some (.ref a), some (.ref b), some (.ref o), some (.int (nI (4 * k))), x5, x6]) (st' := [.int (nI F.2.2.2.2.2.1 - 4), .int (nI (4 * k))]) k_Law_law rfl rfl ?_
  refine gx_ic k_Law_law rfl rfl rfl (fun q => ?_) (fun q => ?_)
  · refine gx_p (L' := [some (.ref F.2.2.2.2.1), some (.ref a), some (.ref b), some (.ref o), some (.int (nI (4 * k))), x5, x6]) (st' := [.int 1]) k_Law_law rfl rfl ?_
    exact gx_ret (v := some (.int 1)) k_Law_law rfl rfl (Or.inr rfl) rfl (k1 ((lw_sub hn k (by omega)).mp q))
  · refine gx_p (L' := [some (.ref F.2.2.2.2.1), some (.ref a), some (.ref b), some (.ref o), some (.int (nI (4 * k))), x5, x6]) (st' := [.ref F.2.2.2.2.1]) k_Law_law rfl rfl ?_
    refine gx_p (L' := [some (.ref F.2.2.2.2.1), some (.ref a), some (.ref b), some (.ref o), some (.int (nI (4 * k))), x5, x6]) (st' := [.int (nI (4 * k)), .ref F.2.2.2.2.1]) k_Law_law rfl rfl ?_
    have hlt : 4 * k + 4 ≤ F.2.2.2.2.2.1 := Nat.not_lt.mp fun z => q ((lw_sub hn k (by omega)).mpr z)
    refine gx_sl (x := nI (4 * k)) k_Law_law rfl rfl (lw_vp (by omega) hn) ?_
    refine gx_p (L' := [some (.ref F.2.2.2.2.1), some (.ref a), some (.ref b), some (.ref o), some (.int (nI (4 * k))), x5, x6]) (st' := [.int 15, .int (F.2.2.2.2.2.2 (nI (4 * k)).toNatClampNeg)]) k_Law_law rfl rfl ?_
    refine gx_p (L' := [some (.ref F.2.2.2.2.1), some (.ref a), some (.ref b), some (.ref o), some (.int (nI (4 * k))), x5, x6]) (st' := [.int (F.2.2.2.2.2.2 (nI (4 * k)).toNatClampNeg &&& 15)]) k_Law_law rfl rfl ?_
    exact k2 hlt
end LLH
section LL2
variable {l : Launch} {F : gx_F} {a b o n0 : Nat} {B : Nat → Nat}
theorem lw_loop (htr : ∀ e, l.admits e → e.platform.stackTraces = false) (hn : F.2.2.2.2.2.1 ≤ 2048) {N Z : Nat} : ∀ (m k : Nat) (σ : gm_S) (c : ck_S) (f : Nat → Int64) (h : gx_H) (x5 x6 : Option Value), F.2.2.2.2.2.1 < 4 * k + 4 * m + 4 → 4 * k ≤ F.2.2.2.2.2.1 → lw_J a b o B σ c f h → REL n0 σ c → c.2.2.2.2.1 + 12 * LN σ + 96 * m ≤ N → c.2.2.2.2.2 + 72 * LN σ + 576 * m ≤ Z →
    gx_Go l F 2048 m_Law_law 23 (lw_L F a b o (nI (4 * k)) x5 x6) [] h (lw_Pz N Z) := by
  intro m
  induction m with
  | zero =>
    intro k σ c f h x5 x6 hk hk4 hJ hR hN hZ
    exact lw_head hn hk4 (fun _ => ⟨rfl, by rw [hJ.1.1]; omega, by rw [hJ.1.2.1]; omega⟩) (fun q => absurd q (by omega))
  | succ m ih =>
    intro k σ c f h x5 x6 hk hk4 hJ hR hN hZ
    refine lw_head hn hk4 (fun _ => ⟨rfl, by rw [hJ.1.1]; omega, by rw [hJ.1.2.1]; omega⟩) (fun hq => ?_)
    obtain ⟨q4, q1, q2, q3⟩ := i4 (k := k) (by omega)
    refine lw_sw htr hJ hR ⟨lw_vp (by omega) hn, by rw [q1]; exact lw_vp (by omega) hn, by rw [q2]; exact lw_vp (by omega) hn, by rw [q3]; exact lw_vp (by omega) hn⟩ ?_ _
    intro σ' c' f' h' y5 y6 hJ' hR' hB
    refine lw_next ?_
    rw [q4]
    exact ih (k + 1) σ' c' f' h' y5 y6 (by omega) (by omega) hJ' hR' (by have := hB.1; omega) (by have := hB.2; omega)
end LL2
