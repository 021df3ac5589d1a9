def t_Arrays_copyOf : List (Nat × gx_I) := [(0, .iload_n 1, 1, 0, 0, 1, 0, [], gx_s0), (1, .aload_n 0, 1, 0, 0, 2, 0, [], gx_s0), (2, .arraylength, 1, 0, 0, 3, 0, [], gx_s0), (3, .if_icmp .ne 11, 3, 0, 0, 6, 14, [], gx_s0), (6, .aload_n 0, 1, 0, 0, 7, 0, [], gx_s0), (13, .areturn, 1, 0, 0, 14, 0, [], gx_s0), (14, .iload_n 1, 1, 0, 0, 15, 0, [], gx_s0), (15, .newarray .int, 2, 0, 0, 17, 0, [0], gx_s0), (17, .astore_n 2, 1, 0, 0, 18, 0, [], gx_s0), (18, .aload_n 0, 1, 0, 0, 19, 0, [], gx_s0), (19, .iconst 0, 1, 0, 0, 20, 0, [], gx_s0), (20, .aload_n 2, 1, 0, 0, 21, 0, [], gx_s0), (21, .iconst 0, 1, 0, 0, 22, 0, [], gx_s0), (22, .aload_n 0, 1, 0, 0, 23, 0, [], gx_s0), (23, .arraylength, 1, 0, 0, 24, 0, [], gx_s0), (24, .iload_n 1, 1, 0, 0, 25, 0, [], gx_s0), (25, .invokestatic 304, 3, 0, 0, 28, 0, [4], gx_s0), (31, .aload_n 2, 1, 0, 0, 32, 0, [], gx_s0), (32, .areturn, 1, 0, 0, 33, 0, [], gx_s0)]
def m_Arrays_copyOf : gx_M := (s_Arrays_copyOf, t_Arrays_copyOf)
set_option maxRecDepth 100000 in
theorem k_Arrays_copyOf : gx_ok m_Arrays_copyOf := ⟨by decide +kernel, gx_cons trivial (gx_cons trivial (gx_cons trivial (gx_cons trivial (gx_cons trivial (gx_cons trivial (gx_cons trivial (gx_cons ⟨rfl, wt_181⟩ (gx_cons trivial (gx_cons trivial (gx_cons trivial (gx_cons trivial (gx_cons trivial (gx_cons trivial (gx_cons trivial (gx_cons trivial (gx_cons ⟨wt_667, wt_543, wt_120, wt_544⟩ (gx_cons trivial (gx_cons trivial gx_nil))))))))))))))))))⟩
section CC
variable {l : Launch} {F : gx_F} {d : Nat} {M : gx_M} {K : ck_K} {a : Nat} {A : Nat → Nat} {pc : Nat} {L : List (Option Value)} {st : List Value} {σ : ck_S} {P : Option Value → ck_S → Prop}
theorem ck_cln {idx k : Nat} (hdg : decode M.1.2.1 pc = .ok (.invokevirtual idx, 3)) (hlink : Cond.methodLink M.1.1.cls idx ⟨"[I", "clone", "()Ljava/lang/Object;"⟩ ∈ gx_Ts) (hk : K.2.2.1 k ≠ 0) (hkd : K.2.2.2 k = 0) (hw : (st.map fun v => v.category).sum ≤ 8) (kk : ck_Go l F (d + 1) M K a A (pc + 3) L (.ref σ.2.2.2.2.1 :: st) (σ.1, σ.2.1, σ.2.2.1, eset σ.2.2.2.1 σ.2.2.2.2.1 (.inl (0, K.2.2.1 k, .inl (σ.2.1 k))), σ.2.2.2.2.1 + 1, σ.2.2.2.2.2 + K.2.2.1 k) P) : ck_Go l F (d + 1) M K a A pc L (.ref (A k) :: st) σ P := by
  intro σ0 h0 h h1 h2
  obtain ⟨w1, w2⟩ := ck_wN h1 h2 (n := K.2.2.1 k) (c := .inl (0, K.2.2.1 k, .inl (σ.2.1 k)))
  have hc := h1.2.2.2.1 k hk
  rw [hkd] at hc
  refine gx_cln hdg hlink wt_662 wt_663 wt_664 wt_665 nt_6 hc hw ?_
  rw [h1.1]
  exact kk σ0 h0 _ w1 w2
theorem ck_cst {idx b n0 : Nat} {f : Nat → Int32} (hdg : decode M.1.2.1 pc = .ok (.checkcast idx, 3)) (hlink : Cond.classLink M.1.1.cls idx "[I" ∈ gx_Ts) (hca : σ.2.2.2.1 b = some (.inl (0, n0, .inl f))) (kk : ck_Go l F d M K a A (pc + 3) L (.ref b :: st) σ P) : ck_Go l F d M K a A pc L (.ref b :: st) σ P := fun σ0 h0 h h1 h2 => gx_cst hdg hlink (h1.2.2.2.2.2.1 b _ hca).1 (kk σ0 h0 h h1 h2)
theorem ck_cpy {idx k b n1 : Nat} {g : Nat → Int32} {n : Int32} (hdg : decode M.1.2.1 pc = .ok (.invokestatic idx, 3)) (hlink : Cond.methodLink M.1.1.cls idx arraycopyName ∈ gx_Ts) (hk : K.2.2.1 k ≠ 0) (hkd : K.2.2.2 k = 0) (hca : σ.2.2.2.1 b = some (.inl (0, n1, .inl g))) (h3 : ¬ n < 0) (h4 : n.toNatClampNeg ≤ K.2.2.1 k) (h5 : n.toNatClampNeg ≤ n1) (hw : (st.map fun v => v.category).sum ≤ 8) (kk : ck_Go l F (d + 1) M K a A (pc + 3) L st (σ.1, σ.2.1, σ.2.2.1, eset σ.2.2.2.1 b (.inl (0, n1, .inl (va_cpy (σ.2.1 k) g 0 0 n.toNatClampNeg))), σ.2.2.2.2) P) : ck_Go l F (d + 1) M K a A pc L (.int n :: .int 0 :: .ref b :: .int 0 :: .ref (A k) :: st) σ P := by
  intro σ0 h0 h h1 h2
  obtain ⟨w1, w2⟩ := ck_wE h1 h2 (c := .inl (0, n1, .inl (va_cpy (σ.2.1 k) g 0 0 n.toNatClampNeg))) hca
  have hc := h1.2.2.2.1 k hk
  rw [hkd] at hc
  have z0 : (0 : Int32).toNatClampNeg = 0 := rfl
  refine gx_cpy (sp := 0) (dp := 0) hdg hlink wt_670 wt_669 wt_123 hc (h1.2.2.2.2.2.1 b _ hca).1 (by decide) (by decide) h3 (by rw [z0]; omega) (by rw [z0]; omega) hw ?_
  exact kk σ0 h0 _ w1 w2
def sp_Arrays_copyOf_5 (v1 : Int32) (σ : ck_S) : Option (Option Nat × ck_S) := if v1 = 30 then some (some σ.2.2.2.2.1, (σ.1, σ.2.1, σ.2.2.1, eset σ.2.2.2.1 σ.2.2.2.2.1 (.inl (0, 30, .inl (σ.2.1 5))), σ.2.2.2.2.1 + 1, σ.2.2.2.2.2 + 30)) else if gi v1 30 = true then some (some σ.2.2.2.2.1, (σ.1, σ.2.1, σ.2.2.1, eset σ.2.2.2.1 σ.2.2.2.2.1 (.inl (0, v1.toNatClampNeg, .inl (va_cpy (σ.2.1 5) (fun _ => 0) 0 0 v1.toNatClampNeg))), σ.2.2.2.2.1 + 1, σ.2.2.2.2.2 + v1.toNatClampNeg)) else none
theorem eset_tw {E : ck_E} {b : Nat} {x y : gx_C} : eset (eset E b x) b y = eset E b y := by
  funext q
  unfold eset
  by_cases hq : q = b
  · rw [if_pos hq, if_pos hq]
  · rw [if_neg hq, if_neg hq, if_neg hq]
theorem gi_nI {x : Int32} {n : Nat} (h : gi x n = true) : x = nI x.toNatClampNeg ∧ ¬ x < 0 ∧ x.toNatClampNeg < n := by
  have h1 := gi_in h
  unfold vp_in at h1
  have hx0 : ¬ x < 0 := fun e => h1 (Or.inl e)
  have hlt : x.toNatClampNeg < n := Nat.lt_of_not_le fun e => h1 (Or.inr e)
  refine ⟨?_, hx0, hlt⟩
  have hz0 : (0 : Int) ≤ x.toInt := by
    have := Int32.not_lt.mp hx0
    simpa using Int32.le_iff_toInt_le.mp this
  have hz1 : x.toInt = (x.toNatClampNeg : Int) := by
    show x.toInt = ((x.toInt.toNat : Nat) : Int)
    omega
  have hb : x.toInt < 2147483648 := Int32.toInt_lt x
  apply Int32.toInt_inj.mp
  show x.toInt = (Int32.ofNat x.toNatClampNeg).toInt
  rw [Int32.toInt_ofNat_of_lt (by omega)]
  exact hz1
theorem c_sp_Arrays_copyOf_5 {v1 : Int32} {σ : ck_S} {r : Option Nat × ck_S} (hp : sp_Arrays_copyOf_5 v1 σ = some r) : ck_Has l F (d + 1) m_Arrays_copyOf rd_K a A [.ref (A 5), .int v1] σ (fun w σ' => w = some (va_rf r.1) ∧ σ' = r.2) := by
  refine ck_meth (k := 1) (L := [some (.ref (A 5)), some (.int v1), none]) pn_Arrays rfl (Nat.le_of_ble_eq_true rfl) ?_
  unfold sp_Arrays_copyOf_5 at hp
  refine ck_p (L' := [some (.ref (A 5)), some (.int v1), none]) (st' := [.int v1]) k_Arrays_copyOf rfl rfl ?_
  refine ck_p (L' := [some (.ref (A 5)), some (.int v1), none]) (st' := [.ref (A 5), .int v1]) k_Arrays_copyOf rfl rfl ?_
  refine ck_ln k_Arrays_copyOf rfl rfl rfl (by decide) ?_
  refine ck_ic k_Arrays_copyOf rfl rfl rfl (fun h1 => ?_) (fun h1 => ?_)
  · rw [if_neg (show ¬ (v1 = 30) from h1)] at hp
    by_cases hg : gi v1 30 = true
    · rw [if_pos hg] at hp
      cases hp
      obtain ⟨g1, g2, g3⟩ := gi_nI hg
      refine ck_p (L' := [some (.ref (A 5)), some (.int v1), none]) (st' := [.int v1]) k_Arrays_copyOf rfl rfl ?_
      refine ck_na (n := v1.toNatClampNeg) k_Arrays_copyOf rfl rfl rfl rfl g1 (by omega) ?_
      refine ck_p (L' := [some (.ref (A 5)), some (.int v1), some (.ref σ.2.2.2.2.1)]) (st' := []) k_Arrays_copyOf rfl rfl ?_
      refine ck_p (L' := [some (.ref (A 5)), some (.int v1), some (.ref σ.2.2.2.2.1)]) (st' := [.ref (A 5)]) k_Arrays_copyOf rfl rfl ?_
      refine ck_p (L' := [some (.ref (A 5)), some (.int v1), some (.ref σ.2.2.2.2.1)]) (st' := [.int 0, .ref (A 5)]) k_Arrays_copyOf rfl rfl ?_
      refine ck_p (L' := [some (.ref (A 5)), some (.int v1), some (.ref σ.2.2.2.2.1)]) (st' := [.ref σ.2.2.2.2.1, .int 0, .ref (A 5)]) k_Arrays_copyOf rfl rfl ?_
      refine ck_p (L' := [some (.ref (A 5)), some (.int v1), some (.ref σ.2.2.2.2.1)]) (st' := [.int 0, .ref σ.2.2.2.2.1, .int 0, .ref (A 5)]) k_Arrays_copyOf rfl rfl ?_
      refine ck_p (L' := [some (.ref (A 5)), some (.int v1), some (.ref σ.2.2.2.2.1)]) (st' := [.ref (A 5), .int 0, .ref σ.2.2.2.2.1, .int 0, .ref (A 5)]) k_Arrays_copyOf rfl rfl ?_
      refine ck_ln k_Arrays_copyOf rfl rfl rfl (by decide) ?_
      refine ck_p (L' := [some (.ref (A 5)), some (.int v1), some (.ref σ.2.2.2.2.1)]) (st' := [.int v1, .int (nI 30), .int 0, .ref σ.2.2.2.2.1, .int 0, .ref (A 5)]) k_Arrays_copyOf rfl rfl ?_
      refine ck_mn k_Arrays_copyOf rfl rfl rfl (Nat.le_of_ble_eq_true rfl) ?_
      have hlt : v1 < nI 30 := by
        apply Int32.lt_iff_toInt_lt.mpr
        rw [g1]
        show (Int32.ofNat v1.toNatClampNeg).toInt < (Int32.ofNat 30).toInt
        rw [Int32.toInt_ofNat_of_lt (by omega), Int32.toInt_ofNat_of_lt (by omega)]
        omega
      rw [if_pos hlt]
      refine ck_cpy (k := 5) (b := σ.2.2.2.2.1) (n1 := v1.toNatClampNeg) (g := fun _ => 0) (by decide +kernel) wt_668 (by decide) rfl (if_pos rfl) g2 (by show _ ≤ 30; omega) (Nat.le_refl _) (Nat.le_of_ble_eq_true rfl) ?_
      rw [eset_tw]
      refine ck_p (L' := [some (.ref (A 5)), some (.int v1), some (.ref σ.2.2.2.2.1)]) (st' := [.ref σ.2.2.2.2.1]) k_Arrays_copyOf rfl rfl ?_
      exact ck_ret (v := some (va_rf (some σ.2.2.2.2.1))) k_Arrays_copyOf rfl rfl trivial rfl ⟨rfl, rfl⟩
    · rw [if_neg hg] at hp
      cases hp
  · rw [if_pos (show v1 = 30 from h1)] at hp
    cases hp
    refine ck_p (L' := [some (.ref (A 5)), some (.int v1), none]) (st' := [.ref (A 5)]) k_Arrays_copyOf rfl rfl ?_
    refine ck_cln (k := 5) (by decide +kernel) wt_661 (by decide) rfl (Nat.le_of_ble_eq_true rfl) ?_
    refine ck_cst (n0 := 30) (f := σ.2.1 5) (by decide +kernel) wt_666 (if_pos rfl) ?_
    exact ck_ret (v := some (va_rf (some σ.2.2.2.2.1))) k_Arrays_copyOf rfl rfl trivial rfl ⟨rfl, rfl⟩
end CC
