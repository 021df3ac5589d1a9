section LC0
variable {l : Launch} {F : gx_F} {P : gx_Z → Prop} {a b o n0 : Nat} {B : Nat → Nat} {σ : gm_S} {c : ck_S} {f : Nat → Int64} {h : gx_H} {iv : Int32} {x5 x6 : Option Value}
def lw_L (F : gx_F) (a b o : Nat) (iv : Int32) (x5 x6 : Option Value) : List (Option Value) := [some (.ref F.2.2.2.2.1), some (.ref a), some (.ref b), some (.ref o), some (.int iv), x5, x6]
def lw_in (F : gx_F) (iv : Int32) : Prop := vp_in iv F.2.2.2.2.2.1 ∧ vp_in (iv + 1) F.2.2.2.2.2.1 ∧ vp_in (iv + 2) F.2.2.2.2.2.1 ∧ vp_in (iv + 3) F.2.2.2.2.2.1
/-- the way goes on at the loop's end -/
def lw_Nx (l : Launch) (F : gx_F) (P : gx_Z → Prop) (a b o n0 : Nat) (B : Nat → Nat) (iv : Int32) (σ : gm_S) (c : ck_S) : Prop := ∀ (σ' : gm_S) (c' : ck_S) (f' : Nat → Int64) (h' : gx_H) (y5 y6 : Option Value), lw_J a b o B σ' c' f' h' → REL n0 σ' c' → lw_B σ c σ' c' → gx_Go l F 2048 m_Law_law 605 (lw_L F a b o iv y5 y6) [] h' P
set_option maxRecDepth 100000 in
theorem lw_c0 (hJ : lw_J a b o B σ c f h) (hR : REL n0 σ c) (hin : lw_in F iv) (kk : lw_Nx l F P a b o n0 B iv σ c) : gx_Go l F 2048 m_Law_law 108 (lw_L F a b o iv x5 x6) [] h P := by
  obtain ⟨x, σ', c', e1, e2, e3, e4, e5, -, e7⟩ := type_k (v := ((F.2.2.2.2.2.2 (iv + 1).toNatClampNeg).toInt64 <<< (Int32.toInt64 32 &&& 63) ||| (F.2.2.2.2.2.2 (iv + 2).toNatClampNeg).toInt64 &&& 4294967295)) (w := F.2.2.2.2.2.2 (iv + 3).toNatClampNeg) hR
  show gx_Go l F 2048 m_Law_law 108 [some (.ref F.2.2.2.2.1), some (.ref a), some (.ref b), some (.ref o), some (.int iv), x5, x6] [] h P
  refine gx_p (L' := [some (.ref F.2.2.2.2.1), some (.ref a), some (.ref b), some (.ref o), some (.int iv), x5, x6]) (st' := [.ref a]) k_Law_law rfl rfl ?_
  refine gx_p (L' := [some (.ref F.2.2.2.2.1), some (.ref a), some (.ref b), some (.ref o), some (.int iv), x5, x6]) (st' := [.ref F.2.2.2.2.1, .ref a]) k_Law_law rfl rfl ?_
  refine gx_p (L' := [some (.ref F.2.2.2.2.1), some (.ref a), some (.ref b), some (.ref o), some (.int iv), x5, x6]) (st' := [.int iv, .ref F.2.2.2.2.1, .ref a]) k_Law_law rfl rfl ?_
  refine gx_p (L' := [some (.ref F.2.2.2.2.1), some (.ref a), some (.ref b), some (.ref o), some (.int iv), x5, x6]) (st' := [.int 1, .int iv, .ref F.2.2.2.2.1, .ref a]) k_Law_law rfl rfl ?_
  refine gx_p (L' := [some (.ref F.2.2.2.2.1), some (.ref a), some (.ref b), some (.ref o), some (.int iv), x5, x6]) (st' := [.int (iv + 1), .ref F.2.2.2.2.1, .ref a]) k_Law_law rfl rfl ?_
  refine gx_sl (x := iv + 1) k_Law_law rfl rfl hin.2.1 ?_
  refine gx_p (L' := [some (.ref F.2.2.2.2.1), some (.ref a), some (.ref b), some (.ref o), some (.int iv), x5, x6]) (st' := [.long ((F.2.2.2.2.2.2 (iv + 1).toNatClampNeg)).toInt64, .ref a]) k_Law_law rfl rfl ?_
  refine gx_p (L' := [some (.ref F.2.2.2.2.1), some (.ref a), some (.ref b), some (.ref o), some (.int iv), x5, x6]) (st' := [.int 32, .long ((F.2.2.2.2.2.2 (iv + 1).toNatClampNeg)).toInt64, .ref a]) k_Law_law rfl rfl ?_
  refine gx_p (L' := [some (.ref F.2.2.2.2.1), some (.ref a), some (.ref b), some (.ref o), some (.int iv), x5, x6]) (st' := [.long (((F.2.2.2.2.2.2 (iv + 1).toNatClampNeg)).toInt64 <<< (Int32.toInt64 32 &&& 63)), .ref a]) k_Law_law rfl rfl ?_
  refine gx_p (L' := [some (.ref F.2.2.2.2.1), some (.ref a), some (.ref b), some (.ref o), some (.int iv), x5, x6]) (st' := [.ref F.2.2.2.2.1, .long (((F.2.2.2.2.2.2 (iv + 1).toNatClampNeg)).toInt64 <<< (Int32.toInt64 32 &&& 63)), .ref a]) k_Law_law rfl rfl ?_
  refine gx_p (L' := [some (.ref F.2.2.2.2.1), some (.ref a), some (.ref b), some (.ref o), some (.int iv), x5, x6]) (st' := [.int iv, .ref F.2.2.2.2.1, .long (((F.2.2.2.2.2.2 (iv + 1).toNatClampNeg)).toInt64 <<< (Int32.toInt64 32 &&& 63)), .ref a]) k_Law_law rfl rfl ?_
  refine gx_p (L' := [some (.ref F.2.2.2.2.1), some (.ref a), some (.ref b), some (.ref o), some (.int iv), x5, x6]) (st' := [.int 2, .int iv, .ref F.2.2.2.2.1, .long (((F.2.2.2.2.2.2 (iv + 1).toNatClampNeg)).toInt64 <<< (Int32.toInt64 32 &&& 63)), .ref a]) k_Law_law rfl rfl ?_
  refine gx_p (L' := [some (.ref F.2.2.2.2.1), some (.ref a), some (.ref b), some (.ref o), some (.int iv), x5, x6]) (st' := [.int (iv + 2), .ref F.2.2.2.2.1, .long (((F.2.2.2.2.2.2 (iv + 1).toNatClampNeg)).toInt64 <<< (Int32.toInt64 32 &&& 63)), .ref a]) k_Law_law rfl rfl ?_
  refine gx_sl (x := iv + 2) k_Law_law rfl rfl hin.2.2.1 ?_
  refine gx_p (L' := [some (.ref F.2.2.2.2.1), some (.ref a), some (.ref b), some (.ref o), some (.int iv), x5, x6]) (st' := [.long ((F.2.2.2.2.2.2 (iv + 2).toNatClampNeg)).toInt64, .long (((F.2.2.2.2.2.2 (iv + 1).toNatClampNeg)).toInt64 <<< (Int32.toInt64 32 &&& 63)), .ref a]) k_Law_law rfl rfl ?_
  refine gx_l2w k_Law_law rfl rfl ?_
  refine gx_p (L' := [some (.ref F.2.2.2.2.1), some (.ref a), some (.ref b), some (.ref o), some (.int iv), x5, x6]) (st' := [.long (((F.2.2.2.2.2.2 (iv + 2).toNatClampNeg)).toInt64 &&& 4294967295), .long (((F.2.2.2.2.2.2 (iv + 1).toNatClampNeg)).toInt64 <<< (Int32.toInt64 32 &&& 63)), .ref a]) k_Law_law rfl rfl ?_
  refine gx_p (L' := [some (.ref F.2.2.2.2.1), some (.ref a), some (.ref b), some (.ref o), some (.int iv), x5, x6]) (st' := [.long ((((F.2.2.2.2.2.2 (iv + 1).toNatClampNeg)).toInt64 <<< (Int32.toInt64 32 &&& 63)) ||| (((F.2.2.2.2.2.2 (iv + 2).toNatClampNeg)).toInt64 &&& 4294967295)), .ref a]) k_Law_law rfl rfl ?_
  refine gx_p (L' := [some (.ref F.2.2.2.2.1), some (.ref a), some (.ref b), some (.ref o), some (.int iv), x5, x6]) (st' := [.ref F.2.2.2.2.1, .long ((((F.2.2.2.2.2.2 (iv + 1).toNatClampNeg)).toInt64 <<< (Int32.toInt64 32 &&& 63)) ||| (((F.2.2.2.2.2.2 (iv + 2).toNatClampNeg)).toInt64 &&& 4294967295)), .ref a]) k_Law_law rfl rfl ?_
  refine gx_p (L' := [some (.ref F.2.2.2.2.1), some (.ref a), some (.ref b), some (.ref o), some (.int iv), x5, x6]) (st' := [.int iv, .ref F.2.2.2.2.1, .long ((((F.2.2.2.2.2.2 (iv + 1).toNatClampNeg)).toInt64 <<< (Int32.toInt64 32 &&& 63)) ||| (((F.2.2.2.2.2.2 (iv + 2).toNatClampNeg)).toInt64 &&& 4294967295)), .ref a]) k_Law_law rfl rfl ?_
  refine gx_p (L' := [some (.ref F.2.2.2.2.1), some (.ref a), some (.ref b), some (.ref o), some (.int iv), x5, x6]) (st' := [.int 3, .int iv, .ref F.2.2.2.2.1, .long ((((F.2.2.2.2.2.2 (iv + 1).toNatClampNeg)).toInt64 <<< (Int32.toInt64 32 &&& 63)) ||| (((F.2.2.2.2.2.2 (iv + 2).toNatClampNeg)).toInt64 &&& 4294967295)), .ref a]) k_Law_law rfl rfl ?_
  refine gx_p (L' := [some (.ref F.2.2.2.2.1), some (.ref a), some (.ref b), some (.ref o), some (.int iv), x5, x6]) (st' := [.int (iv + 3), .ref F.2.2.2.2.1, .long ((((F.2.2.2.2.2.2 (iv + 1).toNatClampNeg)).toInt64 <<< (Int32.toInt64 32 &&& 63)) ||| (((F.2.2.2.2.2.2 (iv + 2).toNatClampNeg)).toInt64 &&& 4294967295)), .ref a]) k_Law_law rfl rfl ?_
  refine gx_sl (x := iv + 3) k_Law_law rfl rfl hin.2.2.2 ?_
  refine lw_ivH (d := 2047) (M' := m_H_type) (As := [.long (((F.2.2.2.2.2.2 (iv + 1).toNatClampNeg).toInt64 <<< (Int32.toInt64 32 &&& 63) ||| (F.2.2.2.2.2.2 (iv + 2).toNatClampNeg).toInt64 &&& 4294967295)), .int (F.2.2.2.2.2.2 (iv + 3).toNatClampNeg)]) (rest := []) rfl rfl rfl rfl rfl rfl (Nat.le_of_ble_eq_true rfl) hJ (c_sp_H_type (d := 2046) e2) ?_
  intro h1 hJ1
  refine gx_p (L' := [some (.ref F.2.2.2.2.1), some (.ref a), some (.ref b), some (.ref o), some (.int iv), x5, x6]) (st' := [.ref b, .int x]) k_Law_law rfl rfl ?_
  refine gx_p (L' := [some (.ref F.2.2.2.2.1), some (.ref a), some (.ref b), some (.ref o), some (.int iv), x5, x6]) (st' := [.ref F.2.2.2.2.1, .ref b, .int x]) k_Law_law rfl rfl ?_
  refine gx_p (L' := [some (.ref F.2.2.2.2.1), some (.ref a), some (.ref b), some (.ref o), some (.int iv), x5, x6]) (st' := [.int iv, .ref F.2.2.2.2.1, .ref b, .int x]) k_Law_law rfl rfl ?_
  refine gx_p (L' := [some (.ref F.2.2.2.2.1), some (.ref a), some (.ref b), some (.ref o), some (.int iv), x5, x6]) (st' := [.int 1, .int iv, .ref F.2.2.2.2.1, .ref b, .int x]) k_Law_law rfl rfl ?_
  refine gx_p (L' := [some (.ref F.2.2.2.2.1), some (.ref a), some (.ref b), some (.ref o), some (.int iv), x5, x6]) (st' := [.int (iv + 1), .ref F.2.2.2.2.1, .ref b, .int x]) k_Law_law rfl rfl ?_
  refine gx_sl (x := iv + 1) k_Law_law rfl rfl hin.2.1 ?_
  refine gx_p (L' := [some (.ref F.2.2.2.2.1), some (.ref a), some (.ref b), some (.ref o), some (.int iv), x5, x6]) (st' := [.long ((F.2.2.2.2.2.2 (iv + 1).toNatClampNeg)).toInt64, .ref b, .int x]) k_Law_law rfl rfl ?_
  refine gx_p (L' := [some (.ref F.2.2.2.2.1), some (.ref a), some (.ref b), some (.ref o), some (.int iv), x5, x6]) (st' := [.int 32, .long ((F.2.2.2.2.2.2 (iv + 1).toNatClampNeg)).toInt64, .ref b, .int x]) k_Law_law rfl rfl ?_
  refine gx_p (L' := [some (.ref F.2.2.2.2.1), some (.ref a), some (.ref b), some (.ref o), some (.int iv), x5, x6]) (st' := [.long (((F.2.2.2.2.2.2 (iv + 1).toNatClampNeg)).toInt64 <<< (Int32.toInt64 32 &&& 63)), .ref b, .int x]) k_Law_law rfl rfl ?_
  refine gx_p (L' := [some (.ref F.2.2.2.2.1), some (.ref a), some (.ref b), some (.ref o), some (.int iv), x5, x6]) (st' := [.ref F.2.2.2.2.1, .long (((F.2.2.2.2.2.2 (iv + 1).toNatClampNeg)).toInt64 <<< (Int32.toInt64 32 &&& 63)), .ref b, .int x]) k_Law_law rfl rfl ?_
  refine gx_p (L' := [some (.ref F.2.2.2.2.1), some (.ref a), some (.ref b), some (.ref o), some (.int iv), x5, x6]) (st' := [.int iv, .ref F.2.2.2.2.1, .long (((F.2.2.2.2.2.2 (iv + 1).toNatClampNeg)).toInt64 <<< (Int32.toInt64 32 &&& 63)), .ref b, .int x]) k_Law_law rfl rfl ?_
  refine gx_p (L' := [some (.ref F.2.2.2.2.1), some (.ref a), some (.ref b), some (.ref o), some (.int iv), x5, x6]) (st' := [.int 2, .int iv, .ref F.2.2.2.2.1, .long (((F.2.2.2.2.2.2 (iv + 1).toNatClampNeg)).toInt64 <<< (Int32.toInt64 32 &&& 63)), .ref b, .int x]) k_Law_law rfl rfl ?_
  refine gx_p (L' := [some (.ref F.2.2.2.2.1), some (.ref a), some (.ref b), some (.ref o), some (.int iv), x5, x6]) (st' := [.int (iv + 2), .ref F.2.2.2.2.1, .long (((F.2.2.2.2.2.2 (iv + 1).toNatClampNeg)).toInt64 <<< (Int32.toInt64 32 &&& 63)), .ref b, .int x]) k_Law_law rfl rfl ?_
  refine gx_sl (x := iv + 2) k_Law_law rfl rfl hin.2.2.1 ?_
  refine gx_p (L' := [some (.ref F.2.2.2.2.1), some (.ref a), some (.ref b), some (.ref o), some (.int iv), x5, x6]) (st' := [.long ((F.2.2.2.2.2.2 (iv + 2).toNatClampNeg)).toInt64, .long (((F.2.2.2.2.2.2 (iv + 1).toNatClampNeg)).toInt64 <<< (Int32.toInt64 32 &&& 63)), .ref b, .int x]) k_Law_law rfl rfl ?_
  refine gx_l2w k_Law_law rfl rfl ?_
  refine gx_p (L' := [some (.ref F.2.2.2.2.1), some (.ref a), some (.ref b), some (.ref o), some (.int iv), x5, x6]) (st' := [.long (((F.2.2.2.2.2.2 (iv + 2).toNatClampNeg)).toInt64 &&& 4294967295), .long (((F.2.2.2.2.2.2 (iv + 1).toNatClampNeg)).toInt64 <<< (Int32.toInt64 32 &&& 63)), .ref b, .int x]) k_Law_law rfl rfl ?_
  refine gx_p (L' := [some (.ref F.2.2.2.2.1), some (.ref a), some (.ref b), some (.ref o), some (.int iv), x5, x6]) (st' := [.long ((((F.2.2.2.2.2.2 (iv + 1).toNatClampNeg)).toInt64 <<< (Int32.toInt64 32 &&& 63)) ||| (((F.2.2.2.2.2.2 (iv + 2).toNatClampNeg)).toInt64 &&& 4294967295)), .ref b, .int x]) k_Law_law rfl rfl ?_
  refine gx_p (L' := [some (.ref F.2.2.2.2.1), some (.ref a), some (.ref b), some (.ref o), some (.int iv), x5, x6]) (st' := [.ref F.2.2.2.2.1, .long ((((F.2.2.2.2.2.2 (iv + 1).toNatClampNeg)).toInt64 <<< (Int32.toInt64 32 &&& 63)) ||| (((F.2.2.2.2.2.2 (iv + 2).toNatClampNeg)).toInt64 &&& 4294967295)), .ref b, .int x]) k_Law_law rfl rfl ?_
  refine gx_p (L' := [some (.ref F.2.2.2.2.1), some (.ref a), some (.ref b), some (.ref o), some (.int iv), x5, x6]) (st' := [.int iv, .ref F.2.2.2.2.1, .long ((((F.2.2.2.2.2.2 (iv + 1).toNatClampNeg)).toInt64 <<< (Int32.toInt64 32 &&& 63)) ||| (((F.2.2.2.2.2.2 (iv + 2).toNatClampNeg)).toInt64 &&& 4294967295)), .ref b, .int x]) k_Law_law rfl rfl ?_
  refine gx_p (L' := [some (.ref F.2.2.2.2.1), some (.ref a), some (.ref b), some (.ref o), some (.int iv), x5, x6]) (st' := [.int 3, .int iv, .ref F.2.2.2.2.1, .long ((((F.2.2.2.2.2.2 (iv + 1).toNatClampNeg)).toInt64 <<< (Int32.toInt64 32 &&& 63)) ||| (((F.2.2.2.2.2.2 (iv + 2).toNatClampNeg)).toInt64 &&& 4294967295)), .ref b, .int x]) k_Law_law rfl rfl ?_
  refine gx_p (L' := [some (.ref F.2.2.2.2.1), some (.ref a), some (.ref b), some (.ref o), some (.int iv), x5, x6]) (st' := [.int (iv + 3), .ref F.2.2.2.2.1, .long ((((F.2.2.2.2.2.2 (iv + 1).toNatClampNeg)).toInt64 <<< (Int32.toInt64 32 &&& 63)) ||| (((F.2.2.2.2.2.2 (iv + 2).toNatClampNeg)).toInt64 &&& 4294967295)), .ref b, .int x]) k_Law_law rfl rfl ?_
  refine gx_sl (x := iv + 3) k_Law_law rfl rfl hin.2.2.2 ?_
  refine lw_ivM (d := 2047) (M' := m_Md_type) (As := [.long (((F.2.2.2.2.2.2 (iv + 1).toNatClampNeg).toInt64 <<< (Int32.toInt64 32 &&& 63) ||| (F.2.2.2.2.2.2 (iv + 2).toNatClampNeg).toInt64 &&& 4294967295)), .int (F.2.2.2.2.2.2 (iv + 3).toNatClampNeg)]) (rest := [.int x]) rfl rfl rfl rfl rfl rfl (Nat.le_of_ble_eq_true rfl) hJ1 (c_sp_Md_type (d := 2047) e1) ?_
  intro h2 hJ2
  refine gx_ic k_Law_law rfl rfl rfl (fun _ => ?_) (fun q => absurd rfl q)
  exact kk σ' c' f h2 x5 x6 hJ2 e3 (lw_Bof e4 e5 e7 (by decide) (by decide))
set_option maxRecDepth 100000 in
theorem lw_c2 (hJ : lw_J a b o B σ c f h) (hR : REL n0 σ c) (hin : lw_in F iv) (kk : lw_Nx l F P a b o n0 B iv σ c) : gx_Go l F 2048 m_Law_law 221 (lw_L F a b o iv x5 x6) [] h P := by
  obtain ⟨x, σ', c', e1, e2, e3, e4, e5, -, e7⟩ := fault_k (v := F.2.2.2.2.2.2 (iv + 1).toNatClampNeg) hR
  show gx_Go l F 2048 m_Law_law 221 [some (.ref F.2.2.2.2.1), some (.ref a), some (.ref b), some (.ref o), some (.int iv), x5, x6] [] h P
  refine gx_p (L' := [some (.ref F.2.2.2.2.1), some (.ref a), some (.ref b), some (.ref o), some (.int iv), x5, x6]) (st' := [.ref a]) k_Law_law rfl rfl ?_
  refine gx_p (L' := [some (.ref F.2.2.2.2.1), some (.ref a), some (.ref b), some (.ref o), some (.int iv), x5, x6]) (st' := [.ref F.2.2.2.2.1, .ref a]) k_Law_law rfl rfl ?_
  refine gx_p (L' := [some (.ref F.2.2.2.2.1), some (.ref a), some (.ref b), some (.ref o), some (.int iv), x5, x6]) (st' := [.int iv, .ref F.2.2.2.2.1, .ref a]) k_Law_law rfl rfl ?_
  refine gx_p (L' := [some (.ref F.2.2.2.2.1), some (.ref a), some (.ref b), some (.ref o), some (.int iv), x5, x6]) (st' := [.int 1, .int iv, .ref F.2.2.2.2.1, .ref a]) k_Law_law rfl rfl ?_
  refine gx_p (L' := [some (.ref F.2.2.2.2.1), some (.ref a), some (.ref b), some (.ref o), some (.int iv), x5, x6]) (st' := [.int (iv + 1), .ref F.2.2.2.2.1, .ref a]) k_Law_law rfl rfl ?_
  refine gx_sl (x := iv + 1) k_Law_law rfl rfl hin.2.1 ?_
  refine lw_ivH (d := 2047) (M' := m_H_fault) (As := [.int (F.2.2.2.2.2.2 (iv + 1).toNatClampNeg)]) (rest := []) rfl rfl rfl rfl rfl rfl (Nat.le_of_ble_eq_true rfl) hJ (c_sp_H_fault (d := 2047) e2) ?_
  intro h1 hJ1
  refine gx_p (L' := [some (.ref F.2.2.2.2.1), some (.ref a), some (.ref b), some (.ref o), some (.int iv), x5, x6]) (st' := [.ref b, .int x]) k_Law_law rfl rfl ?_
  refine gx_p (L' := [some (.ref F.2.2.2.2.1), some (.ref a), some (.ref b), some (.ref o), some (.int iv), x5, x6]) (st' := [.ref F.2.2.2.2.1, .ref b, .int x]) k_Law_law rfl rfl ?_
  refine gx_p (L' := [some (.ref F.2.2.2.2.1), some (.ref a), some (.ref b), some (.ref o), some (.int iv), x5, x6]) (st' := [.int iv, .ref F.2.2.2.2.1, .ref b, .int x]) k_Law_law rfl rfl ?_
  refine gx_p (L' := [some (.ref F.2.2.2.2.1), some (.ref a), some (.ref b), some (.ref o), some (.int iv), x5, x6]) (st' := [.int 1, .int iv, .ref F.2.2.2.2.1, .ref b, .int x]) k_Law_law rfl rfl ?_
  refine gx_p (L' := [some (.ref F.2.2.2.2.1), some (.ref a), some (.ref b), some (.ref o), some (.int iv), x5, x6]) (st' := [.int (iv + 1), .ref F.2.2.2.2.1, .ref b, .int x]) k_Law_law rfl rfl ?_
  refine gx_sl (x := iv + 1) k_Law_law rfl rfl hin.2.1 ?_
  refine lw_ivM (d := 2047) (M' := m_Md_fault) (As := [.int (F.2.2.2.2.2.2 (iv + 1).toNatClampNeg)]) (rest := [.int x]) rfl rfl rfl rfl rfl rfl (Nat.le_of_ble_eq_true rfl) hJ1 (c_sp_Md_fault (d := 2047) e1) ?_
  intro h2 hJ2
  refine gx_ic k_Law_law rfl rfl rfl (fun _ => ?_) (fun q => absurd rfl q)
  exact kk σ' c' f h2 x5 x6 hJ2 e3 (lw_Bof e4 e5 e7 (by decide) (by decide))
set_option maxRecDepth 100000 in
theorem lw_c3 (hJ : lw_J a b o B σ c f h) (hR : REL n0 σ c) (hin : lw_in F iv) (kk : lw_Nx l F P a b o n0 B iv σ c) : gx_Go l F 2048 m_Law_law 246 (lw_L F a b o iv x5 x6) [] h P := by
  obtain ⟨x, σ', c', e1, e2, e3, e4, e5, -, e7⟩ := program_k (v := F.2.2.2.2.2.2 (iv + 1).toNatClampNeg) (w := F.2.2.2.2.2.2 (iv + 2).toNatClampNeg) hR
  show gx_Go l F 2048 m_Law_law 246 [some (.ref F.2.2.2.2.1), some (.ref a), some (.ref b), some (.ref o), some (.int iv), x5, x6] [] h P
  refine gx_p (L' := [some (.ref F.2.2.2.2.1), some (.ref a), some (.ref b), some (.ref o), some (.int iv), x5, x6]) (st' := [.ref a]) k_Law_law rfl rfl ?_
  refine gx_p (L' := [some (.ref F.2.2.2.2.1), some (.ref a), some (.ref b), some (.ref o), some (.int iv), x5, x6]) (st' := [.ref F.2.2.2.2.1, .ref a]) k_Law_law rfl rfl ?_
  refine gx_p (L' := [some (.ref F.2.2.2.2.1), some (.ref a), some (.ref b), some (.ref o), some (.int iv), x5, x6]) (st' := [.int iv, .ref F.2.2.2.2.1, .ref a]) k_Law_law rfl rfl ?_
  refine gx_p (L' := [some (.ref F.2.2.2.2.1), some (.ref a), some (.ref b), some (.ref o), some (.int iv), x5, x6]) (st' := [.int 1, .int iv, .ref F.2.2.2.2.1, .ref a]) k_Law_law rfl rfl ?_
  refine gx_p (L' := [some (.ref F.2.2.2.2.1), some (.ref a), some (.ref b), some (.ref o), some (.int iv), x5, x6]) (st' := [.int (iv + 1), .ref F.2.2.2.2.1, .ref a]) k_Law_law rfl rfl ?_
  refine gx_sl (x := iv + 1) k_Law_law rfl rfl hin.2.1 ?_
  refine gx_p (L' := [some (.ref F.2.2.2.2.1), some (.ref a), some (.ref b), some (.ref o), some (.int iv), x5, x6]) (st' := [.ref F.2.2.2.2.1, .int (F.2.2.2.2.2.2 (iv + 1).toNatClampNeg), .ref a]) k_Law_law rfl rfl ?_
  refine gx_p (L' := [some (.ref F.2.2.2.2.1), some (.ref a), some (.ref b), some (.ref o), some (.int iv), x5, x6]) (st' := [.int iv, .ref F.2.2.2.2.1, .int (F.2.2.2.2.2.2 (iv + 1).toNatClampNeg), .ref a]) k_Law_law rfl rfl ?_
  refine gx_p (L' := [some (.ref F.2.2.2.2.1), some (.ref a), some (.ref b), some (.ref o), some (.int iv), x5, x6]) (st' := [.int 2, .int iv, .ref F.2.2.2.2.1, .int (F.2.2.2.2.2.2 (iv + 1).toNatClampNeg), .ref a]) k_Law_law rfl rfl ?_
  refine gx_p (L' := [some (.ref F.2.2.2.2.1), some (.ref a), some (.ref b), some (.ref o), some (.int iv), x5, x6]) (st' := [.int (iv + 2), .ref F.2.2.2.2.1, .int (F.2.2.2.2.2.2 (iv + 1).toNatClampNeg), .ref a]) k_Law_law rfl rfl ?_
  refine gx_sl (x := iv + 2) k_Law_law rfl rfl hin.2.2.1 ?_
  refine lw_ivH (d := 2047) (M' := m_H_program) (As := [.int (F.2.2.2.2.2.2 (iv + 1).toNatClampNeg), .int (F.2.2.2.2.2.2 (iv + 2).toNatClampNeg)]) (rest := []) rfl rfl rfl rfl rfl rfl (Nat.le_of_ble_eq_true rfl) hJ (c_sp_H_program (d := 2045) e2) ?_
  intro h1 hJ1
  refine gx_p (L' := [some (.ref F.2.2.2.2.1), some (.ref a), some (.ref b), some (.ref o), some (.int iv), x5, x6]) (st' := [.ref b, .int x]) k_Law_law rfl rfl ?_
  refine gx_p (L' := [some (.ref F.2.2.2.2.1), some (.ref a), some (.ref b), some (.ref o), some (.int iv), x5, x6]) (st' := [.ref F.2.2.2.2.1, .ref b, .int x]) k_Law_law rfl rfl ?_
  refine gx_p (L' := [some (.ref F.2.2.2.2.1), some (.ref a), some (.ref b), some (.ref o), some (.int iv), x5, x6]) (st' := [.int iv, .ref F.2.2.2.2.1, .ref b, .int x]) k_Law_law rfl rfl ?_
  refine gx_p (L' := [some (.ref F.2.2.2.2.1), some (.ref a), some (.ref b), some (.ref o), some (.int iv), x5, x6]) (st' := [.int 1, .int iv, .ref F.2.2.2.2.1, .ref b, .int x]) k_Law_law rfl rfl ?_
  refine gx_p (L' := [some (.ref F.2.2.2.2.1), some (.ref a), some (.ref b), some (.ref o), some (.int iv), x5, x6]) (st' := [.int (iv + 1), .ref F.2.2.2.2.1, .ref b, .int x]) k_Law_law rfl rfl ?_
  refine gx_sl (x := iv + 1) k_Law_law rfl rfl hin.2.1 ?_
  refine gx_p (L' := [some (.ref F.2.2.2.2.1), some (.ref a), some (.ref b), some (.ref o), some (.int iv), x5, x6]) (st' := [.ref F.2.2.2.2.1, .int (F.2.2.2.2.2.2 (iv + 1).toNatClampNeg), .ref b, .int x]) k_Law_law rfl rfl ?_
  refine gx_p (L' := [some (.ref F.2.2.2.2.1), some (.ref a), some (.ref b), some (.ref o), some (.int iv), x5, x6]) (st' := [.int iv, .ref F.2.2.2.2.1, .int (F.2.2.2.2.2.2 (iv + 1).toNatClampNeg), .ref b, .int x]) k_Law_law rfl rfl ?_
  refine gx_p (L' := [some (.ref F.2.2.2.2.1), some (.ref a), some (.ref b), some (.ref o), some (.int iv), x5, x6]) (st' := [.int 2, .int iv, .ref F.2.2.2.2.1, .int (F.2.2.2.2.2.2 (iv + 1).toNatClampNeg), .ref b, .int x]) k_Law_law rfl rfl ?_
  refine gx_p (L' := [some (.ref F.2.2.2.2.1), some (.ref a), some (.ref b), some (.ref o), some (.int iv), x5, x6]) (st' := [.int (iv + 2), .ref F.2.2.2.2.1, .int (F.2.2.2.2.2.2 (iv + 1).toNatClampNeg), .ref b, .int x]) k_Law_law rfl rfl ?_
  refine gx_sl (x := iv + 2) k_Law_law rfl rfl hin.2.2.1 ?_
  refine lw_ivM (d := 2047) (M' := m_Md_program) (As := [.int (F.2.2.2.2.2.2 (iv + 1).toNatClampNeg), .int (F.2.2.2.2.2.2 (iv + 2).toNatClampNeg)]) (rest := [.int x]) rfl rfl rfl rfl rfl rfl (Nat.le_of_ble_eq_true rfl) hJ1 (c_sp_Md_program (d := 2045) e1) ?_
  intro h2 hJ2
  refine gx_ic k_Law_law rfl rfl rfl (fun _ => ?_) (fun q => absurd rfl q)
  exact kk σ' c' f h2 x5 x6 hJ2 e3 (lw_Bof e4 e5 e7 (by decide) (by decide))
set_option maxRecDepth 100000 in
theorem lw_c4 (hJ : lw_J a b o B σ c f h) (hR : REL n0 σ c) (hin : lw_in F iv) (kk : lw_Nx l F P a b o n0 B iv σ c) : gx_Go l F 2048 m_Law_law 283 (lw_L F a b o iv x5 x6) [] h P := by
  obtain ⟨x, σ', c', e1, e2, e3, e4, e5, -, e7⟩ := make_k (v := F.2.2.2.2.2.2 (iv + 1).toNatClampNeg) hR
  show gx_Go l F 2048 m_Law_law 283 [some (.ref F.2.2.2.2.1), some (.ref a), some (.ref b), some (.ref o), some (.int iv), x5, x6] [] h P
  refine gx_p (L' := [some (.ref F.2.2.2.2.1), some (.ref a), some (.ref b), some (.ref o), some (.int iv), x5, x6]) (st' := [.ref a]) k_Law_law rfl rfl ?_
  refine gx_p (L' := [some (.ref F.2.2.2.2.1), some (.ref a), some (.ref b), some (.ref o), some (.int iv), x5, x6]) (st' := [.ref F.2.2.2.2.1, .ref a]) k_Law_law rfl rfl ?_
  refine gx_p (L' := [some (.ref F.2.2.2.2.1), some (.ref a), some (.ref b), some (.ref o), some (.int iv), x5, x6]) (st' := [.int iv, .ref F.2.2.2.2.1, .ref a]) k_Law_law rfl rfl ?_
  refine gx_p (L' := [some (.ref F.2.2.2.2.1), some (.ref a), some (.ref b), some (.ref o), some (.int iv), x5, x6]) (st' := [.int 1, .int iv, .ref F.2.2.2.2.1, .ref a]) k_Law_law rfl rfl ?_
  refine gx_p (L' := [some (.ref F.2.2.2.2.1), some (.ref a), some (.ref b), some (.ref o), some (.int iv), x5, x6]) (st' := [.int (iv + 1), .ref F.2.2.2.2.1, .ref a]) k_Law_law rfl rfl ?_
  refine gx_sl (x := iv + 1) k_Law_law rfl rfl hin.2.1 ?_
  refine lw_ivH (d := 2047) (M' := m_H_make) (As := [.int (F.2.2.2.2.2.2 (iv + 1).toNatClampNeg)]) (rest := []) rfl rfl rfl rfl rfl rfl (Nat.le_of_ble_eq_true rfl) hJ (c_sp_H_make (d := 2045) e2) ?_
  intro h1 hJ1
  refine gx_p (L' := [some (.ref F.2.2.2.2.1), some (.ref a), some (.ref b), some (.ref o), some (.int iv), x5, x6]) (st' := [.ref b, .int x]) k_Law_law rfl rfl ?_
  refine gx_p (L' := [some (.ref F.2.2.2.2.1), some (.ref a), some (.ref b), some (.ref o), some (.int iv), x5, x6]) (st' := [.ref F.2.2.2.2.1, .ref b, .int x]) k_Law_law rfl rfl ?_
  refine gx_p (L' := [some (.ref F.2.2.2.2.1), some (.ref a), some (.ref b), some (.ref o), some (.int iv), x5, x6]) (st' := [.int iv, .ref F.2.2.2.2.1, .ref b, .int x]) k_Law_law rfl rfl ?_
  refine gx_p (L' := [some (.ref F.2.2.2.2.1), some (.ref a), some (.ref b), some (.ref o), some (.int iv), x5, x6]) (st' := [.int 1, .int iv, .ref F.2.2.2.2.1, .ref b, .int x]) k_Law_law rfl rfl ?_
  refine gx_p (L' := [some (.ref F.2.2.2.2.1), some (.ref a), some (.ref b), some (.ref o), some (.int iv), x5, x6]) (st' := [.int (iv + 1), .ref F.2.2.2.2.1, .ref b, .int x]) k_Law_law rfl rfl ?_
  refine gx_sl (x := iv + 1) k_Law_law rfl rfl hin.2.1 ?_
  refine lw_ivM (d := 2047) (M' := m_Md_make) (As := [.int (F.2.2.2.2.2.2 (iv + 1).toNatClampNeg)]) (rest := [.int x]) rfl rfl rfl rfl rfl rfl (Nat.le_of_ble_eq_true rfl) hJ1 (c_sp_Md_make (d := 2045) e1) ?_
  intro h2 hJ2
  refine gx_ic k_Law_law rfl rfl rfl (fun _ => ?_) (fun q => absurd rfl q)
  exact kk σ' c' f h2 x5 x6 hJ2 e3 (lw_Bof e4 e5 e7 (by decide) (by decide))
set_option maxRecDepth 100000 in
theorem lw_c5 (hJ : lw_J a b o B σ c f h) (hR : REL n0 σ c) (hin : lw_in F iv) (kk : lw_Nx l F P a b o n0 B iv σ c) : gx_Go l F 2048 m_Law_law 308 (lw_L F a b o iv x5 x6) [] h P := by
  obtain ⟨x, σ', c', e1, e2, e3, e4, e5, -, e7⟩ := tick_k (v := F.2.2.2.2.2.2 (iv + 1).toNatClampNeg) (w := F.2.2.2.2.2.2 (iv + 2).toNatClampNeg) hR
  show gx_Go l F 2048 m_Law_law 308 [some (.ref F.2.2.2.2.1), some (.ref a), some (.ref b), some (.ref o), some (.int iv), x5, x6] [] h P
  refine gx_p (L' := [some (.ref F.2.2.2.2.1), some (.ref a), some (.ref b), some (.ref o), some (.int iv), x5, x6]) (st' := [.ref a]) k_Law_law rfl rfl ?_
  refine gx_p (L' := [some (.ref F.2.2.2.2.1), some (.ref a), some (.ref b), some (.ref o), some (.int iv), x5, x6]) (st' := [.ref F.2.2.2.2.1, .ref a]) k_Law_law rfl rfl ?_
  refine gx_p (L' := [some (.ref F.2.2.2.2.1), some (.ref a), some (.ref b), some (.ref o), some (.int iv), x5, x6]) (st' := [.int iv, .ref F.2.2.2.2.1, .ref a]) k_Law_law rfl rfl ?_
  refine gx_p (L' := [some (.ref F.2.2.2.2.1), some (.ref a), some (.ref b), some (.ref o), some (.int iv), x5, x6]) (st' := [.int 1, .int iv, .ref F.2.2.2.2.1, .ref a]) k_Law_law rfl rfl ?_
  refine gx_p (L' := [some (.ref F.2.2.2.2.1), some (.ref a), some (.ref b), some (.ref o), some (.int iv), x5, x6]) (st' := [.int (iv + 1), .ref F.2.2.2.2.1, .ref a]) k_Law_law rfl rfl ?_
  refine gx_sl (x := iv + 1) k_Law_law rfl rfl hin.2.1 ?_
  refine gx_p (L' := [some (.ref F.2.2.2.2.1), some (.ref a), some (.ref b), some (.ref o), some (.int iv), x5, x6]) (st' := [.ref F.2.2.2.2.1, .int (F.2.2.2.2.2.2 (iv + 1).toNatClampNeg), .ref a]) k_Law_law rfl rfl ?_
  refine gx_p (L' := [some (.ref F.2.2.2.2.1), some (.ref a), some (.ref b), some (.ref o), some (.int iv), x5, x6]) (st' := [.int iv, .ref F.2.2.2.2.1, .int (F.2.2.2.2.2.2 (iv + 1).toNatClampNeg), .ref a]) k_Law_law rfl rfl ?_
  refine gx_p (L' := [some (.ref F.2.2.2.2.1), some (.ref a), some (.ref b), some (.ref o), some (.int iv), x5, x6]) (st' := [.int 2, .int iv, .ref F.2.2.2.2.1, .int (F.2.2.2.2.2.2 (iv + 1).toNatClampNeg), .ref a]) k_Law_law rfl rfl ?_
  refine gx_p (L' := [some (.ref F.2.2.2.2.1), some (.ref a), some (.ref b), some (.ref o), some (.int iv), x5, x6]) (st' := [.int (iv + 2), .ref F.2.2.2.2.1, .int (F.2.2.2.2.2.2 (iv + 1).toNatClampNeg), .ref a]) k_Law_law rfl rfl ?_
  refine gx_sl (x := iv + 2) k_Law_law rfl rfl hin.2.2.1 ?_
  refine lw_ivH (d := 2047) (M' := m_H_tick) (As := [.int (F.2.2.2.2.2.2 (iv + 1).toNatClampNeg), .int (F.2.2.2.2.2.2 (iv + 2).toNatClampNeg)]) (rest := []) rfl rfl rfl rfl rfl rfl (Nat.le_of_ble_eq_true rfl) hJ (c_sp_H_tick (d := 844) e2) ?_
  intro h1 hJ1
  refine gx_p (L' := [some (.ref F.2.2.2.2.1), some (.ref a), some (.ref b), some (.ref o), some (.int iv), x5, x6]) (st' := [.ref b, .int x]) k_Law_law rfl rfl ?_
  refine gx_p (L' := [some (.ref F.2.2.2.2.1), some (.ref a), some (.ref b), some (.ref o), some (.int iv), x5, x6]) (st' := [.ref F.2.2.2.2.1, .ref b, .int x]) k_Law_law rfl rfl ?_
  refine gx_p (L' := [some (.ref F.2.2.2.2.1), some (.ref a), some (.ref b), some (.ref o), some (.int iv), x5, x6]) (st' := [.int iv, .ref F.2.2.2.2.1, .ref b, .int x]) k_Law_law rfl rfl ?_
  refine gx_p (L' := [some (.ref F.2.2.2.2.1), some (.ref a), some (.ref b), some (.ref o), some (.int iv), x5, x6]) (st' := [.int 1, .int iv, .ref F.2.2.2.2.1, .ref b, .int x]) k_Law_law rfl rfl ?_
  refine gx_p (L' := [some (.ref F.2.2.2.2.1), some (.ref a), some (.ref b), some (.ref o), some (.int iv), x5, x6]) (st' := [.int (iv + 1), .ref F.2.2.2.2.1, .ref b, .int x]) k_Law_law rfl rfl ?_
  refine gx_sl (x := iv + 1) k_Law_law rfl rfl hin.2.1 ?_
  refine gx_p (L' := [some (.ref F.2.2.2.2.1), some (.ref a), some (.ref b), some (.ref o), some (.int iv), x5, x6]) (st' := [.ref F.2.2.2.2.1, .int (F.2.2.2.2.2.2 (iv + 1).toNatClampNeg), .ref b, .int x]) k_Law_law rfl rfl ?_
  refine gx_p (L' := [some (.ref F.2.2.2.2.1), some (.ref a), some (.ref b), some (.ref o), some (.int iv), x5, x6]) (st' := [.int iv, .ref F.2.2.2.2.1, .int (F.2.2.2.2.2.2 (iv + 1).toNatClampNeg), .ref b, .int x]) k_Law_law rfl rfl ?_
  refine gx_p (L' := [some (.ref F.2.2.2.2.1), some (.ref a), some (.ref b), some (.ref o), some (.int iv), x5, x6]) (st' := [.int 2, .int iv, .ref F.2.2.2.2.1, .int (F.2.2.2.2.2.2 (iv + 1).toNatClampNeg), .ref b, .int x]) k_Law_law rfl rfl ?_
  refine gx_p (L' := [some (.ref F.2.2.2.2.1), some (.ref a), some (.ref b), some (.ref o), some (.int iv), x5, x6]) (st' := [.int (iv + 2), .ref F.2.2.2.2.1, .int (F.2.2.2.2.2.2 (iv + 1).toNatClampNeg), .ref b, .int x]) k_Law_law rfl rfl ?_
  refine gx_sl (x := iv + 2) k_Law_law rfl rfl hin.2.2.1 ?_
  refine lw_ivM (d := 2047) (M' := m_Md_tick) (As := [.int (F.2.2.2.2.2.2 (iv + 1).toNatClampNeg), .int (F.2.2.2.2.2.2 (iv + 2).toNatClampNeg)]) (rest := [.int x]) rfl rfl rfl rfl rfl rfl (Nat.le_of_ble_eq_true rfl) hJ1 (c_sp_Md_tick (d := 1439) e1) ?_
  intro h2 hJ2
  refine gx_ic k_Law_law rfl rfl rfl (fun _ => ?_) (fun q => absurd rfl q)
  exact kk σ' c' f h2 x5 x6 hJ2 e3 (lw_Bof e4 e5 e7 (by decide) (by decide))
set_option maxRecDepth 100000 in
theorem lw_c6 (hJ : lw_J a b o B σ c f h) (hR : REL n0 σ c) (hin : lw_in F iv) (kk : lw_Nx l F P a b o n0 B iv σ c) : gx_Go l F 2048 m_Law_law 345 (lw_L F a b o iv x5 x6) [] h P := by
  obtain ⟨x, σ', c', e1, e2, e3, e4, e5, -, e7⟩ := out_k (v := F.2.2.2.2.2.2 (iv + 1).toNatClampNeg) hR
  show gx_Go l F 2048 m_Law_law 345 [some (.ref F.2.2.2.2.1), some (.ref a), some (.ref b), some (.ref o), some (.int iv), x5, x6] [] h P
  refine gx_p (L' := [some (.ref F.2.2.2.2.1), some (.ref a), some (.ref b), some (.ref o), some (.int iv), x5, x6]) (st' := [.ref a]) k_Law_law rfl rfl ?_
  refine gx_p (L' := [some (.ref F.2.2.2.2.1), some (.ref a), some (.ref b), some (.ref o), some (.int iv), x5, x6]) (st' := [.ref F.2.2.2.2.1, .ref a]) k_Law_law rfl rfl ?_
  refine gx_p (L' := [some (.ref F.2.2.2.2.1), some (.ref a), some (.ref b), some (.ref o), some (.int iv), x5, x6]) (st' := [.int iv, .ref F.2.2.2.2.1, .ref a]) k_Law_law rfl rfl ?_
  refine gx_p (L' := [some (.ref F.2.2.2.2.1), some (.ref a), some (.ref b), some (.ref o), some (.int iv), x5, x6]) (st' := [.int 1, .int iv, .ref F.2.2.2.2.1, .ref a]) k_Law_law rfl rfl ?_
  refine gx_p (L' := [some (.ref F.2.2.2.2.1), some (.ref a), some (.ref b), some (.ref o), some (.int iv), x5, x6]) (st' := [.int (iv + 1), .ref F.2.2.2.2.1, .ref a]) k_Law_law rfl rfl ?_
  refine gx_sl (x := iv + 1) k_Law_law rfl rfl hin.2.1 ?_
  refine lw_ivH (d := 2047) (M' := m_H_out) (As := [.int (F.2.2.2.2.2.2 (iv + 1).toNatClampNeg)]) (rest := []) rfl rfl rfl rfl rfl rfl (Nat.le_of_ble_eq_true rfl) hJ (c_sp_H_out (d := 2046) e2) ?_
  intro h1 hJ1
  refine gx_p (L' := [some (.ref F.2.2.2.2.1), some (.ref a), some (.ref b), some (.ref o), some (.int iv), x5, x6]) (st' := [.ref b, .int x]) k_Law_law rfl rfl ?_
  refine gx_p (L' := [some (.ref F.2.2.2.2.1), some (.ref a), some (.ref b), some (.ref o), some (.int iv), x5, x6]) (st' := [.ref F.2.2.2.2.1, .ref b, .int x]) k_Law_law rfl rfl ?_
  refine gx_p (L' := [some (.ref F.2.2.2.2.1), some (.ref a), some (.ref b), some (.ref o), some (.int iv), x5, x6]) (st' := [.int iv, .ref F.2.2.2.2.1, .ref b, .int x]) k_Law_law rfl rfl ?_
  refine gx_p (L' := [some (.ref F.2.2.2.2.1), some (.ref a), some (.ref b), some (.ref o), some (.int iv), x5, x6]) (st' := [.int 1, .int iv, .ref F.2.2.2.2.1, .ref b, .int x]) k_Law_law rfl rfl ?_
  refine gx_p (L' := [some (.ref F.2.2.2.2.1), some (.ref a), some (.ref b), some (.ref o), some (.int iv), x5, x6]) (st' := [.int (iv + 1), .ref F.2.2.2.2.1, .ref b, .int x]) k_Law_law rfl rfl ?_
  refine gx_sl (x := iv + 1) k_Law_law rfl rfl hin.2.1 ?_
  refine lw_ivM (d := 2047) (M' := m_Md_out) (As := [.int (F.2.2.2.2.2.2 (iv + 1).toNatClampNeg)]) (rest := [.int x]) rfl rfl rfl rfl rfl rfl (Nat.le_of_ble_eq_true rfl) hJ1 (c_sp_Md_out (d := 2045) e1) ?_
  intro h2 hJ2
  refine gx_ic k_Law_law rfl rfl rfl (fun _ => ?_) (fun q => absurd rfl q)
  exact kk σ' c' f h2 x5 x6 hJ2 e3 (lw_Bof e4 e5 e7 (by decide) (by decide))
set_option maxRecDepth 100000 in
theorem lw_c7 (hJ : lw_J a b o B σ c f h) (hR : REL n0 σ c) (hin : lw_in F iv) (kk : lw_Nx l F P a b o n0 B iv σ c) : gx_Go l F 2048 m_Law_law 370 (lw_L F a b o iv x5 x6) [] h P := by
  obtain ⟨x, σ', c', e1, e2, e3, e4, e5, -, e7⟩ := stands_k (v := F.2.2.2.2.2.2 (iv + 1).toNatClampNeg) hR
  show gx_Go l F 2048 m_Law_law 370 [some (.ref F.2.2.2.2.1), some (.ref a), some (.ref b), some (.ref o), some (.int iv), x5, x6] [] h P
  refine gx_p (L' := [some (.ref F.2.2.2.2.1), some (.ref a), some (.ref b), some (.ref o), some (.int iv), x5, x6]) (st' := [.ref a]) k_Law_law rfl rfl ?_
  refine gx_p (L' := [some (.ref F.2.2.2.2.1), some (.ref a), some (.ref b), some (.ref o), some (.int iv), x5, x6]) (st' := [.ref F.2.2.2.2.1, .ref a]) k_Law_law rfl rfl ?_
  refine gx_p (L' := [some (.ref F.2.2.2.2.1), some (.ref a), some (.ref b), some (.ref o), some (.int iv), x5, x6]) (st' := [.int iv, .ref F.2.2.2.2.1, .ref a]) k_Law_law rfl rfl ?_
  refine gx_p (L' := [some (.ref F.2.2.2.2.1), some (.ref a), some (.ref b), some (.ref o), some (.int iv), x5, x6]) (st' := [.int 1, .int iv, .ref F.2.2.2.2.1, .ref a]) k_Law_law rfl rfl ?_
  refine gx_p (L' := [some (.ref F.2.2.2.2.1), some (.ref a), some (.ref b), some (.ref o), some (.int iv), x5, x6]) (st' := [.int (iv + 1), .ref F.2.2.2.2.1, .ref a]) k_Law_law rfl rfl ?_
  refine gx_sl (x := iv + 1) k_Law_law rfl rfl hin.2.1 ?_
  refine lw_ivH (d := 2047) (M' := m_H_stands) (As := [.int (F.2.2.2.2.2.2 (iv + 1).toNatClampNeg)]) (rest := []) rfl rfl rfl rfl rfl rfl (Nat.le_of_ble_eq_true rfl) hJ (c_sp_H_stands (d := 2046) e2) ?_
  intro h1 hJ1
  refine gx_p (L' := [some (.ref F.2.2.2.2.1), some (.ref a), some (.ref b), some (.ref o), some (.int iv), x5, x6]) (st' := [.ref b, .int x]) k_Law_law rfl rfl ?_
  refine gx_p (L' := [some (.ref F.2.2.2.2.1), some (.ref a), some (.ref b), some (.ref o), some (.int iv), x5, x6]) (st' := [.ref F.2.2.2.2.1, .ref b, .int x]) k_Law_law rfl rfl ?_
  refine gx_p (L' := [some (.ref F.2.2.2.2.1), some (.ref a), some (.ref b), some (.ref o), some (.int iv), x5, x6]) (st' := [.int iv, .ref F.2.2.2.2.1, .ref b, .int x]) k_Law_law rfl rfl ?_
  refine gx_p (L' := [some (.ref F.2.2.2.2.1), some (.ref a), some (.ref b), some (.ref o), some (.int iv), x5, x6]) (st' := [.int 1, .int iv, .ref F.2.2.2.2.1, .ref b, .int x]) k_Law_law rfl rfl ?_
  refine gx_p (L' := [some (.ref F.2.2.2.2.1), some (.ref a), some (.ref b), some (.ref o), some (.int iv), x5, x6]) (st' := [.int (iv + 1), .ref F.2.2.2.2.1, .ref b, .int x]) k_Law_law rfl rfl ?_
  refine gx_sl (x := iv + 1) k_Law_law rfl rfl hin.2.1 ?_
  refine lw_ivM (d := 2047) (M' := m_Md_stands) (As := [.int (F.2.2.2.2.2.2 (iv + 1).toNatClampNeg)]) (rest := [.int x]) rfl rfl rfl rfl rfl rfl (Nat.le_of_ble_eq_true rfl) hJ1 (c_sp_Md_stands (d := 2045) e1) ?_
  intro h2 hJ2
  refine gx_ic k_Law_law rfl rfl rfl (fun _ => ?_) (fun q => absurd rfl q)
  exact kk σ' c' f h2 x5 x6 hJ2 e3 (lw_Bof e4 e5 e7 (by decide) (by decide))
set_option maxRecDepth 100000 in
theorem lw_c8 (hJ : lw_J a b o B σ c f h) (hR : REL n0 σ c) (hin : lw_in F iv) (kk : lw_Nx l F P a b o n0 B iv σ c) : gx_Go l F 2048 m_Law_law 395 (lw_L F a b o iv x5 x6) [] h P := by
  obtain ⟨x, σ', c', e1, e2, e3, e4, e5, -, e7⟩ := back_k (v := F.2.2.2.2.2.2 (iv + 1).toNatClampNeg) (w := F.2.2.2.2.2.2 (iv + 2).toNatClampNeg) hR
  show gx_Go l F 2048 m_Law_law 395 [some (.ref F.2.2.2.2.1), some (.ref a), some (.ref b), some (.ref o), some (.int iv), x5, x6] [] h P
  refine gx_p (L' := [some (.ref F.2.2.2.2.1), some (.ref a), some (.ref b), some (.ref o), some (.int iv), x5, x6]) (st' := [.ref a]) k_Law_law rfl rfl ?_
  refine gx_p (L' := [some (.ref F.2.2.2.2.1), some (.ref a), some (.ref b), some (.ref o), some (.int iv), x5, x6]) (st' := [.ref F.2.2.2.2.1, .ref a]) k_Law_law rfl rfl ?_
  refine gx_p (L' := [some (.ref F.2.2.2.2.1), some (.ref a), some (.ref b), some (.ref o), some (.int iv), x5, x6]) (st' := [.int iv, .ref F.2.2.2.2.1, .ref a]) k_Law_law rfl rfl ?_
  refine gx_p (L' := [some (.ref F.2.2.2.2.1), some (.ref a), some (.ref b), some (.ref o), some (.int iv), x5, x6]) (st' := [.int 1, .int iv, .ref F.2.2.2.2.1, .ref a]) k_Law_law rfl rfl ?_
  refine gx_p (L' := [some (.ref F.2.2.2.2.1), some (.ref a), some (.ref b), some (.ref o), some (.int iv), x5, x6]) (st' := [.int (iv + 1), .ref F.2.2.2.2.1, .ref a]) k_Law_law rfl rfl ?_
  refine gx_sl (x := iv + 1) k_Law_law rfl rfl hin.2.1 ?_
  refine gx_p (L' := [some (.ref F.2.2.2.2.1), some (.ref a), some (.ref b), some (.ref o), some (.int iv), x5, x6]) (st' := [.ref F.2.2.2.2.1, .int (F.2.2.2.2.2.2 (iv + 1).toNatClampNeg), .ref a]) k_Law_law rfl rfl ?_
  refine gx_p (L' := [some (.ref F.2.2.2.2.1), some (.ref a), some (.ref b), some (.ref o), some (.int iv), x5, x6]) (st' := [.int iv, .ref F.2.2.2.2.1, .int (F.2.2.2.2.2.2 (iv + 1).toNatClampNeg), .ref a]) k_Law_law rfl rfl ?_
  refine gx_p (L' := [some (.ref F.2.2.2.2.1), some (.ref a), some (.ref b), some (.ref o), some (.int iv), x5, x6]) (st' := [.int 2, .int iv, .ref F.2.2.2.2.1, .int (F.2.2.2.2.2.2 (iv + 1).toNatClampNeg), .ref a]) k_Law_law rfl rfl ?_
  refine gx_p (L' := [some (.ref F.2.2.2.2.1), some (.ref a), some (.ref b), some (.ref o), some (.int iv), x5, x6]) (st' := [.int (iv + 2), .ref F.2.2.2.2.1, .int (F.2.2.2.2.2.2 (iv + 1).toNatClampNeg), .ref a]) k_Law_law rfl rfl ?_
  refine gx_sl (x := iv + 2) k_Law_law rfl rfl hin.2.2.1 ?_
  refine lw_ivH (d := 2047) (M' := m_H_back) (As := [.int (F.2.2.2.2.2.2 (iv + 1).toNatClampNeg), .int (F.2.2.2.2.2.2 (iv + 2).toNatClampNeg)]) (rest := []) rfl rfl rfl rfl rfl rfl (Nat.le_of_ble_eq_true rfl) hJ (c_sp_H_back (d := 1845) e2) ?_
  intro h1 hJ1
  refine gx_p (L' := [some (.ref F.2.2.2.2.1), some (.ref a), some (.ref b), some (.ref o), some (.int iv), x5, x6]) (st' := [.ref b, .int x]) k_Law_law rfl rfl ?_
  refine gx_p (L' := [some (.ref F.2.2.2.2.1), some (.ref a), some (.ref b), some (.ref o), some (.int iv), x5, x6]) (st' := [.ref F.2.2.2.2.1, .ref b, .int x]) k_Law_law rfl rfl ?_
  refine gx_p (L' := [some (.ref F.2.2.2.2.1), some (.ref a), some (.ref b), some (.ref o), some (.int iv), x5, x6]) (st' := [.int iv, .ref F.2.2.2.2.1, .ref b, .int x]) k_Law_law rfl rfl ?_
  refine gx_p (L' := [some (.ref F.2.2.2.2.1), some (.ref a), some (.ref b), some (.ref o), some (.int iv), x5, x6]) (st' := [.int 1, .int iv, .ref F.2.2.2.2.1, .ref b, .int x]) k_Law_law rfl rfl ?_
  refine gx_p (L' := [some (.ref F.2.2.2.2.1), some (.ref a), some (.ref b), some (.ref o), some (.int iv), x5, x6]) (st' := [.int (iv + 1), .ref F.2.2.2.2.1, .ref b, .int x]) k_Law_law rfl rfl ?_
  refine gx_sl (x := iv + 1) k_Law_law rfl rfl hin.2.1 ?_
  refine gx_p (L' := [some (.ref F.2.2.2.2.1), some (.ref a), some (.ref b), some (.ref o), some (.int iv), x5, x6]) (st' := [.ref F.2.2.2.2.1, .int (F.2.2.2.2.2.2 (iv + 1).toNatClampNeg), .ref b, .int x]) k_Law_law rfl rfl ?_
  refine gx_p (L' := [some (.ref F.2.2.2.2.1), some (.ref a), some (.ref b), some (.ref o), some (.int iv), x5, x6]) (st' := [.int iv, .ref F.2.2.2.2.1, .int (F.2.2.2.2.2.2 (iv + 1).toNatClampNeg), .ref b, .int x]) k_Law_law rfl rfl ?_
  refine gx_p (L' := [some (.ref F.2.2.2.2.1), some (.ref a), some (.ref b), some (.ref o), some (.int iv), x5, x6]) (st' := [.int 2, .int iv, .ref F.2.2.2.2.1, .int (F.2.2.2.2.2.2 (iv + 1).toNatClampNeg), .ref b, .int x]) k_Law_law rfl rfl ?_
  refine gx_p (L' := [some (.ref F.2.2.2.2.1), some (.ref a), some (.ref b), some (.ref o), some (.int iv), x5, x6]) (st' := [.int (iv + 2), .ref F.2.2.2.2.1, .int (F.2.2.2.2.2.2 (iv + 1).toNatClampNeg), .ref b, .int x]) k_Law_law rfl rfl ?_
  refine gx_sl (x := iv + 2) k_Law_law rfl rfl hin.2.2.1 ?_
  refine lw_ivM (d := 2047) (M' := m_Md_back) (As := [.int (F.2.2.2.2.2.2 (iv + 1).toNatClampNeg), .int (F.2.2.2.2.2.2 (iv + 2).toNatClampNeg)]) (rest := [.int x]) rfl rfl rfl rfl rfl rfl (Nat.le_of_ble_eq_true rfl) hJ1 (c_sp_Md_back (d := 2045) e1) ?_
  intro h2 hJ2
  refine gx_ic k_Law_law rfl rfl rfl (fun _ => ?_) (fun q => absurd rfl q)
  exact kk σ' c' f h2 x5 x6 hJ2 e3 (lw_Bof e4 e5 e7 (by decide) (by decide))
set_option maxRecDepth 100000 in
theorem lw_c9 (hJ : lw_J a b o B σ c f h) (hR : REL n0 σ c) (hin : lw_in F iv) (kk : lw_Nx l F P a b o n0 B iv σ c) : gx_Go l F 2048 m_Law_law 432 (lw_L F a b o iv x5 x6) [] h P := by
  obtain ⟨x, σ', c', e1, e2, e3, e4, e5, -, e7⟩ := ticks_k (v := F.2.2.2.2.2.2 (iv + 1).toNatClampNeg) hR
  show gx_Go l F 2048 m_Law_law 432 [some (.ref F.2.2.2.2.1), some (.ref a), some (.ref b), some (.ref o), some (.int iv), x5, x6] [] h P
  refine gx_p (L' := [some (.ref F.2.2.2.2.1), some (.ref a), some (.ref b), some (.ref o), some (.int iv), x5, x6]) (st' := [.ref a]) k_Law_law rfl rfl ?_
  refine gx_p (L' := [some (.ref F.2.2.2.2.1), some (.ref a), some (.ref b), some (.ref o), some (.int iv), x5, x6]) (st' := [.ref F.2.2.2.2.1, .ref a]) k_Law_law rfl rfl ?_
  refine gx_p (L' := [some (.ref F.2.2.2.2.1), some (.ref a), some (.ref b), some (.ref o), some (.int iv), x5, x6]) (st' := [.int iv, .ref F.2.2.2.2.1, .ref a]) k_Law_law rfl rfl ?_
  refine gx_p (L' := [some (.ref F.2.2.2.2.1), some (.ref a), some (.ref b), some (.ref o), some (.int iv), x5, x6]) (st' := [.int 1, .int iv, .ref F.2.2.2.2.1, .ref a]) k_Law_law rfl rfl ?_
  refine gx_p (L' := [some (.ref F.2.2.2.2.1), some (.ref a), some (.ref b), some (.ref o), some (.int iv), x5, x6]) (st' := [.int (iv + 1), .ref F.2.2.2.2.1, .ref a]) k_Law_law rfl rfl ?_
  refine gx_sl (x := iv + 1) k_Law_law rfl rfl hin.2.1 ?_
  refine lw_ivH (d := 2047) (M' := m_H_ticks) (As := [.int (F.2.2.2.2.2.2 (iv + 1).toNatClampNeg)]) (rest := []) rfl rfl rfl rfl rfl rfl (Nat.le_of_ble_eq_true rfl) hJ (c_sp_H_ticks (d := 2046) e2) ?_
  intro h1 hJ1
  refine gx_p (L' := [some (.ref F.2.2.2.2.1), some (.ref a), some (.ref b), some (.ref o), some (.int iv), x5, x6]) (st' := [.ref b, .int x]) k_Law_law rfl rfl ?_
  refine gx_p (L' := [some (.ref F.2.2.2.2.1), some (.ref a), some (.ref b), some (.ref o), some (.int iv), x5, x6]) (st' := [.ref F.2.2.2.2.1, .ref b, .int x]) k_Law_law rfl rfl ?_
  refine gx_p (L' := [some (.ref F.2.2.2.2.1), some (.ref a), some (.ref b), some (.ref o), some (.int iv), x5, x6]) (st' := [.int iv, .ref F.2.2.2.2.1, .ref b, .int x]) k_Law_law rfl rfl ?_
  refine gx_p (L' := [some (.ref F.2.2.2.2.1), some (.ref a), some (.ref b), some (.ref o), some (.int iv), x5, x6]) (st' := [.int 1, .int iv, .ref F.2.2.2.2.1, .ref b, .int x]) k_Law_law rfl rfl ?_
  refine gx_p (L' := [some (.ref F.2.2.2.2.1), some (.ref a), some (.ref b), some (.ref o), some (.int iv), x5, x6]) (st' := [.int (iv + 1), .ref F.2.2.2.2.1, .ref b, .int x]) k_Law_law rfl rfl ?_
  refine gx_sl (x := iv + 1) k_Law_law rfl rfl hin.2.1 ?_
  refine lw_ivM (d := 2047) (M' := m_Md_ticks) (As := [.int (F.2.2.2.2.2.2 (iv + 1).toNatClampNeg)]) (rest := [.int x]) rfl rfl rfl rfl rfl rfl (Nat.le_of_ble_eq_true rfl) hJ1 (c_sp_Md_ticks (d := 2045) e1) ?_
  intro h2 hJ2
  refine gx_ic k_Law_law rfl rfl rfl (fun _ => ?_) (fun q => absurd rfl q)
  exact kk σ' c' f h2 x5 x6 hJ2 e3 (lw_Bof e4 e5 e7 (by decide) (by decide))
set_option maxRecDepth 100000 in
theorem lw_c10 (hJ : lw_J a b o B σ c f h) (hR : REL n0 σ c) (hin : lw_in F iv) (kk : lw_Nx l F P a b o n0 B iv σ c) : gx_Go l F 2048 m_Law_law 457 (lw_L F a b o iv x5 x6) [] h P := by
  obtain ⟨x, σ', c', e1, e2, e3, e4, e5, -, e7⟩ := search_k (v := F.2.2.2.2.2.2 (iv + 1).toNatClampNeg) (w := F.2.2.2.2.2.2 (iv + 2).toNatClampNeg) (m := F.2.2.2.2.2.2 (iv + 3).toNatClampNeg) hR
  show gx_Go l F 2048 m_Law_law 457 [some (.ref F.2.2.2.2.1), some (.ref a), some (.ref b), some (.ref o), some (.int iv), x5, x6] [] h P
  refine gx_p (L' := [some (.ref F.2.2.2.2.1), some (.ref a), some (.ref b), some (.ref o), some (.int iv), x5, x6]) (st' := [.ref a]) k_Law_law rfl rfl ?_
  refine gx_p (L' := [some (.ref F.2.2.2.2.1), some (.ref a), some (.ref b), some (.ref o), some (.int iv), x5, x6]) (st' := [.ref F.2.2.2.2.1, .ref a]) k_Law_law rfl rfl ?_
  refine gx_p (L' := [some (.ref F.2.2.2.2.1), some (.ref a), some (.ref b), some (.ref o), some (.int iv), x5, x6]) (st' := [.int iv, .ref F.2.2.2.2.1, .ref a]) k_Law_law rfl rfl ?_
  refine gx_p (L' := [some (.ref F.2.2.2.2.1), some (.ref a), some (.ref b), some (.ref o), some (.int iv), x5, x6]) (st' := [.int 1, .int iv, .ref F.2.2.2.2.1, .ref a]) k_Law_law rfl rfl ?_
  refine gx_p (L' := [some (.ref F.2.2.2.2.1), some (.ref a), some (.ref b), some (.ref o), some (.int iv), x5, x6]) (st' := [.int (iv + 1), .ref F.2.2.2.2.1, .ref a]) k_Law_law rfl rfl ?_
  refine gx_sl (x := iv + 1) k_Law_law rfl rfl hin.2.1 ?_
  refine gx_p (L' := [some (.ref F.2.2.2.2.1), some (.ref a), some (.ref b), some (.ref o), some (.int iv), x5, x6]) (st' := [.ref F.2.2.2.2.1, .int (F.2.2.2.2.2.2 (iv + 1).toNatClampNeg), .ref a]) k_Law_law rfl rfl ?_
  refine gx_p (L' := [some (.ref F.2.2.2.2.1), some (.ref a), some (.ref b), some (.ref o), some (.int iv), x5, x6]) (st' := [.int iv, .ref F.2.2.2.2.1, .int (F.2.2.2.2.2.2 (iv + 1).toNatClampNeg), .ref a]) k_Law_law rfl rfl ?_
  refine gx_p (L' := [some (.ref F.2.2.2.2.1), some (.ref a), some (.ref b), some (.ref o), some (.int iv), x5, x6]) (st' := [.int 2, .int iv, .ref F.2.2.2.2.1, .int (F.2.2.2.2.2.2 (iv + 1).toNatClampNeg), .ref a]) k_Law_law rfl rfl ?_
  refine gx_p (L' := [some (.ref F.2.2.2.2.1), some (.ref a), some (.ref b), some (.ref o), some (.int iv), x5, x6]) (st' := [.int (iv + 2), .ref F.2.2.2.2.1, .int (F.2.2.2.2.2.2 (iv + 1).toNatClampNeg), .ref a]) k_Law_law rfl rfl ?_
  refine gx_sl (x := iv + 2) k_Law_law rfl rfl hin.2.2.1 ?_
  refine gx_p (L' := [some (.ref F.2.2.2.2.1), some (.ref a), some (.ref b), some (.ref o), some (.int iv), x5, x6]) (st' := [.ref F.2.2.2.2.1, .int (F.2.2.2.2.2.2 (iv + 2).toNatClampNeg), .int (F.2.2.2.2.2.2 (iv + 1).toNatClampNeg), .ref a]) k_Law_law rfl rfl ?_
  refine gx_p (L' := [some (.ref F.2.2.2.2.1), some (.ref a), some (.ref b), some (.ref o), some (.int iv), x5, x6]) (st' := [.int iv, .ref F.2.2.2.2.1, .int (F.2.2.2.2.2.2 (iv + 2).toNatClampNeg), .int (F.2.2.2.2.2.2 (iv + 1).toNatClampNeg), .ref a]) k_Law_law rfl rfl ?_
  refine gx_p (L' := [some (.ref F.2.2.2.2.1), some (.ref a), some (.ref b), some (.ref o), some (.int iv), x5, x6]) (st' := [.int 3, .int iv, .ref F.2.2.2.2.1, .int (F.2.2.2.2.2.2 (iv + 2).toNatClampNeg), .int (F.2.2.2.2.2.2 (iv + 1).toNatClampNeg), .ref a]) k_Law_law rfl rfl ?_
  refine gx_p (L' := [some (.ref F.2.2.2.2.1), some (.ref a), some (.ref b), some (.ref o), some (.int iv), x5, x6]) (st' := [.int (iv + 3), .ref F.2.2.2.2.1, .int (F.2.2.2.2.2.2 (iv + 2).toNatClampNeg), .int (F.2.2.2.2.2.2 (iv + 1).toNatClampNeg), .ref a]) k_Law_law rfl rfl ?_
  refine gx_sl (x := iv + 3) k_Law_law rfl rfl hin.2.2.2 ?_
  refine lw_ivH (d := 2047) (M' := m_H_search) (As := [.int (F.2.2.2.2.2.2 (iv + 1).toNatClampNeg), .int (F.2.2.2.2.2.2 (iv + 2).toNatClampNeg), .int (F.2.2.2.2.2.2 (iv + 3).toNatClampNeg)]) (rest := []) rfl rfl rfl rfl rfl rfl (Nat.le_of_ble_eq_true rfl) hJ (c_sp_H_search (d := 842) e2) ?_
  intro h1 hJ1
  refine gx_p (L' := [some (.ref F.2.2.2.2.1), some (.ref a), some (.ref b), some (.ref o), some (.int iv), x5, x6]) (st' := [.ref b, .int x]) k_Law_law rfl rfl ?_
  refine gx_p (L' := [some (.ref F.2.2.2.2.1), some (.ref a), some (.ref b), some (.ref o), some (.int iv), x5, x6]) (st' := [.ref F.2.2.2.2.1, .ref b, .int x]) k_Law_law rfl rfl ?_
  refine gx_p (L' := [some (.ref F.2.2.2.2.1), some (.ref a), some (.ref b), some (.ref o), some (.int iv), x5, x6]) (st' := [.int iv, .ref F.2.2.2.2.1, .ref b, .int x]) k_Law_law rfl rfl ?_
  refine gx_p (L' := [some (.ref F.2.2.2.2.1), some (.ref a), some (.ref b), some (.ref o), some (.int iv), x5, x6]) (st' := [.int 1, .int iv, .ref F.2.2.2.2.1, .ref b, .int x]) k_Law_law rfl rfl ?_
  refine gx_p (L' := [some (.ref F.2.2.2.2.1), some (.ref a), some (.ref b), some (.ref o), some (.int iv), x5, x6]) (st' := [.int (iv + 1), .ref F.2.2.2.2.1, .ref b, .int x]) k_Law_law rfl rfl ?_
  refine gx_sl (x := iv + 1) k_Law_law rfl rfl hin.2.1 ?_
  refine gx_p (L' := [some (.ref F.2.2.2.2.1), some (.ref a), some (.ref b), some (.ref o), some (.int iv), x5, x6]) (st' := [.ref F.2.2.2.2.1, .int (F.2.2.2.2.2.2 (iv + 1).toNatClampNeg), .ref b, .int x]) k_Law_law rfl rfl ?_
  refine gx_p (L' := [some (.ref F.2.2.2.2.1), some (.ref a), some (.ref b), some (.ref o), some (.int iv), x5, x6]) (st' := [.int iv, .ref F.2.2.2.2.1, .int (F.2.2.2.2.2.2 (iv + 1).toNatClampNeg), .ref b, .int x]) k_Law_law rfl rfl ?_
  refine gx_p (L' := [some (.ref F.2.2.2.2.1), some (.ref a), some (.ref b), some (.ref o), some (.int iv), x5, x6]) (st' := [.int 2, .int iv, .ref F.2.2.2.2.1, .int (F.2.2.2.2.2.2 (iv + 1).toNatClampNeg), .ref b, .int x]) k_Law_law rfl rfl ?_
  refine gx_p (L' := [some (.ref F.2.2.2.2.1), some (.ref a), some (.ref b), some (.ref o), some (.int iv), x5, x6]) (st' := [.int (iv + 2), .ref F.2.2.2.2.1, .int (F.2.2.2.2.2.2 (iv + 1).toNatClampNeg), .ref b, .int x]) k_Law_law rfl rfl ?_
  refine gx_sl (x := iv + 2) k_Law_law rfl rfl hin.2.2.1 ?_
  refine gx_p (L' := [some (.ref F.2.2.2.2.1), some (.ref a), some (.ref b), some (.ref o), some (.int iv), x5, x6]) (st' := [.ref F.2.2.2.2.1, .int (F.2.2.2.2.2.2 (iv + 2).toNatClampNeg), .int (F.2.2.2.2.2.2 (iv + 1).toNatClampNeg), .ref b, .int x]) k_Law_law rfl rfl ?_
  refine gx_p (L' := [some (.ref F.2.2.2.2.1), some (.ref a), some (.ref b), some (.ref o), some (.int iv), x5, x6]) (st' := [.int iv, .ref F.2.2.2.2.1, .int (F.2.2.2.2.2.2 (iv + 2).toNatClampNeg), .int (F.2.2.2.2.2.2 (iv + 1).toNatClampNeg), .ref b, .int x]) k_Law_law rfl rfl ?_
  refine gx_p (L' := [some (.ref F.2.2.2.2.1), some (.ref a), some (.ref b), some (.ref o), some (.int iv), x5, x6]) (st' := [.int 3, .int iv, .ref F.2.2.2.2.1, .int (F.2.2.2.2.2.2 (iv + 2).toNatClampNeg), .int (F.2.2.2.2.2.2 (iv + 1).toNatClampNeg), .ref b, .int x]) k_Law_law rfl rfl ?_
  refine gx_p (L' := [some (.ref F.2.2.2.2.1), some (.ref a), some (.ref b), some (.ref o), some (.int iv), x5, x6]) (st' := [.int (iv + 3), .ref F.2.2.2.2.1, .int (F.2.2.2.2.2.2 (iv + 2).toNatClampNeg), .int (F.2.2.2.2.2.2 (iv + 1).toNatClampNeg), .ref b, .int x]) k_Law_law rfl rfl ?_
  refine gx_sl (x := iv + 3) k_Law_law rfl rfl hin.2.2.2 ?_
  refine lw_ivM (d := 2047) (M' := m_Md_search) (As := [.int (F.2.2.2.2.2.2 (iv + 1).toNatClampNeg), .int (F.2.2.2.2.2.2 (iv + 2).toNatClampNeg), .int (F.2.2.2.2.2.2 (iv + 3).toNatClampNeg)]) (rest := [.int x]) rfl rfl rfl rfl rfl rfl (Nat.le_of_ble_eq_true rfl) hJ1 (c_sp_Md_search (d := 1437) e1) ?_
  intro h2 hJ2
  refine gx_ic k_Law_law rfl rfl rfl (fun _ => ?_) (fun q => absurd rfl q)
  exact kk σ' c' f h2 x5 x6 hJ2 e3 (lw_Bof e4 e5 e7 (by decide) (by decide))
set_option maxRecDepth 100000 in
theorem lw_c11 (hJ : lw_J a b o B σ c f h) (hR : REL n0 σ c) (hin : lw_in F iv) (kk : lw_Nx l F P a b o n0 B iv σ c) : gx_Go l F 2048 m_Law_law 506 (lw_L F a b o iv x5 x6) [] h P := by
  obtain ⟨x, σ', c', e1, e2, e3, e4, e5, -, e7⟩ := differ_k (v := F.2.2.2.2.2.2 (iv + 1).toNatClampNeg) (w := F.2.2.2.2.2.2 (iv + 2).toNatClampNeg) (m := F.2.2.2.2.2.2 (iv + 3).toNatClampNeg) hR
  show gx_Go l F 2048 m_Law_law 506 [some (.ref F.2.2.2.2.1), some (.ref a), some (.ref b), some (.ref o), some (.int iv), x5, x6] [] h P
  refine gx_p (L' := [some (.ref F.2.2.2.2.1), some (.ref a), some (.ref b), some (.ref o), some (.int iv), x5, x6]) (st' := [.ref a]) k_Law_law rfl rfl ?_
  refine gx_p (L' := [some (.ref F.2.2.2.2.1), some (.ref a), some (.ref b), some (.ref o), some (.int iv), x5, x6]) (st' := [.ref F.2.2.2.2.1, .ref a]) k_Law_law rfl rfl ?_
  refine gx_p (L' := [some (.ref F.2.2.2.2.1), some (.ref a), some (.ref b), some (.ref o), some (.int iv), x5, x6]) (st' := [.int iv, .ref F.2.2.2.2.1, .ref a]) k_Law_law rfl rfl ?_
  refine gx_p (L' := [some (.ref F.2.2.2.2.1), some (.ref a), some (.ref b), some (.ref o), some (.int iv), x5, x6]) (st' := [.int 1, .int iv, .ref F.2.2.2.2.1, .ref a]) k_Law_law rfl rfl ?_
  refine gx_p (L' := [some (.ref F.2.2.2.2.1), some (.ref a), some (.ref b), some (.ref o), some (.int iv), x5, x6]) (st' := [.int (iv + 1), .ref F.2.2.2.2.1, .ref a]) k_Law_law rfl rfl ?_
  refine gx_sl (x := iv + 1) k_Law_law rfl rfl hin.2.1 ?_
  refine gx_p (L' := [some (.ref F.2.2.2.2.1), some (.ref a), some (.ref b), some (.ref o), some (.int iv), x5, x6]) (st' := [.ref F.2.2.2.2.1, .int (F.2.2.2.2.2.2 (iv + 1).toNatClampNeg), .ref a]) k_Law_law rfl rfl ?_
  refine gx_p (L' := [some (.ref F.2.2.2.2.1), some (.ref a), some (.ref b), some (.ref o), some (.int iv), x5, x6]) (st' := [.int iv, .ref F.2.2.2.2.1, .int (F.2.2.2.2.2.2 (iv + 1).toNatClampNeg), .ref a]) k_Law_law rfl rfl ?_
  refine gx_p (L' := [some (.ref F.2.2.2.2.1), some (.ref a), some (.ref b), some (.ref o), some (.int iv), x5, x6]) (st' := [.int 2, .int iv, .ref F.2.2.2.2.1, .int (F.2.2.2.2.2.2 (iv + 1).toNatClampNeg), .ref a]) k_Law_law rfl rfl ?_
  refine gx_p (L' := [some (.ref F.2.2.2.2.1), some (.ref a), some (.ref b), some (.ref o), some (.int iv), x5, x6]) (st' := [.int (iv + 2), .ref F.2.2.2.2.1, .int (F.2.2.2.2.2.2 (iv + 1).toNatClampNeg), .ref a]) k_Law_law rfl rfl ?_
  refine gx_sl (x := iv + 2) k_Law_law rfl rfl hin.2.2.1 ?_
  refine gx_p (L' := [some (.ref F.2.2.2.2.1), some (.ref a), some (.ref b), some (.ref o), some (.int iv), x5, x6]) (st' := [.ref F.2.2.2.2.1, .int (F.2.2.2.2.2.2 (iv + 2).toNatClampNeg), .int (F.2.2.2.2.2.2 (iv + 1).toNatClampNeg), .ref a]) k_Law_law rfl rfl ?_
  refine gx_p (L' := [some (.ref F.2.2.2.2.1), some (.ref a), some (.ref b), some (.ref o), some (.int iv), x5, x6]) (st' := [.int iv, .ref F.2.2.2.2.1, .int (F.2.2.2.2.2.2 (iv + 2).toNatClampNeg), .int (F.2.2.2.2.2.2 (iv + 1).toNatClampNeg), .ref a]) k_Law_law rfl rfl ?_
  refine gx_p (L' := [some (.ref F.2.2.2.2.1), some (.ref a), some (.ref b), some (.ref o), some (.int iv), x5, x6]) (st' := [.int 3, .int iv, .ref F.2.2.2.2.1, .int (F.2.2.2.2.2.2 (iv + 2).toNatClampNeg), .int (F.2.2.2.2.2.2 (iv + 1).toNatClampNeg), .ref a]) k_Law_law rfl rfl ?_
  refine gx_p (L' := [some (.ref F.2.2.2.2.1), some (.ref a), some (.ref b), some (.ref o), some (.int iv), x5, x6]) (st' := [.int (iv + 3), .ref F.2.2.2.2.1, .int (F.2.2.2.2.2.2 (iv + 2).toNatClampNeg), .int (F.2.2.2.2.2.2 (iv + 1).toNatClampNeg), .ref a]) k_Law_law rfl rfl ?_
  refine gx_sl (x := iv + 3) k_Law_law rfl rfl hin.2.2.2 ?_
  refine lw_ivH (d := 2047) (M' := m_H_differ) (As := [.int (F.2.2.2.2.2.2 (iv + 1).toNatClampNeg), .int (F.2.2.2.2.2.2 (iv + 2).toNatClampNeg), .int (F.2.2.2.2.2.2 (iv + 3).toNatClampNeg)]) (rest := []) rfl rfl rfl rfl rfl rfl (Nat.le_of_ble_eq_true rfl) hJ (c_sp_H_differ (d := 842) e2) ?_
  intro h1 hJ1
  refine gx_p (L' := [some (.ref F.2.2.2.2.1), some (.ref a), some (.ref b), some (.ref o), some (.int iv), x5, x6]) (st' := [.ref b, .int x]) k_Law_law rfl rfl ?_
  refine gx_p (L' := [some (.ref F.2.2.2.2.1), some (.ref a), some (.ref b), some (.ref o), some (.int iv), x5, x6]) (st' := [.ref F.2.2.2.2.1, .ref b, .int x]) k_Law_law rfl rfl ?_
  refine gx_p (L' := [some (.ref F.2.2.2.2.1), some (.ref a), some (.ref b), some (.ref o), some (.int iv), x5, x6]) (st' := [.int iv, .ref F.2.2.2.2.1, .ref b, .int x]) k_Law_law rfl rfl ?_
  refine gx_p (L' := [some (.ref F.2.2.2.2.1), some (.ref a), some (.ref b), some (.ref o), some (.int iv), x5, x6]) (st' := [.int 1, .int iv, .ref F.2.2.2.2.1, .ref b, .int x]) k_Law_law rfl rfl ?_
  refine gx_p (L' := [some (.ref F.2.2.2.2.1), some (.ref a), some (.ref b), some (.ref o), some (.int iv), x5, x6]) (st' := [.int (iv + 1), .ref F.2.2.2.2.1, .ref b, .int x]) k_Law_law rfl rfl ?_
  refine gx_sl (x := iv + 1) k_Law_law rfl rfl hin.2.1 ?_
  refine gx_p (L' := [some (.ref F.2.2.2.2.1), some (.ref a), some (.ref b), some (.ref o), some (.int iv), x5, x6]) (st' := [.ref F.2.2.2.2.1, .int (F.2.2.2.2.2.2 (iv + 1).toNatClampNeg), .ref b, .int x]) k_Law_law rfl rfl ?_
  refine gx_p (L' := [some (.ref F.2.2.2.2.1), some (.ref a), some (.ref b), some (.ref o), some (.int iv), x5, x6]) (st' := [.int iv, .ref F.2.2.2.2.1, .int (F.2.2.2.2.2.2 (iv + 1).toNatClampNeg), .ref b, .int x]) k_Law_law rfl rfl ?_
  refine gx_p (L' := [some (.ref F.2.2.2.2.1), some (.ref a), some (.ref b), some (.ref o), some (.int iv), x5, x6]) (st' := [.int 2, .int iv, .ref F.2.2.2.2.1, .int (F.2.2.2.2.2.2 (iv + 1).toNatClampNeg), .ref b, .int x]) k_Law_law rfl rfl ?_
  refine gx_p (L' := [some (.ref F.2.2.2.2.1), some (.ref a), some (.ref b), some (.ref o), some (.int iv), x5, x6]) (st' := [.int (iv + 2), .ref F.2.2.2.2.1, .int (F.2.2.2.2.2.2 (iv + 1).toNatClampNeg), .ref b, .int x]) k_Law_law rfl rfl ?_
  refine gx_sl (x := iv + 2) k_Law_law rfl rfl hin.2.2.1 ?_
  refine gx_p (L' := [some (.ref F.2.2.2.2.1), some (.ref a), some (.ref b), some (.ref o), some (.int iv), x5, x6]) (st' := [.ref F.2.2.2.2.1, .int (F.2.2.2.2.2.2 (iv + 2).toNatClampNeg), .int (F.2.2.2.2.2.2 (iv + 1).toNatClampNeg), .ref b, .int x]) k_Law_law rfl rfl ?_
  refine gx_p (L' := [some (.ref F.2.2.2.2.1), some (.ref a), some (.ref b), some (.ref o), some (.int iv), x5, x6]) (st' := [.int iv, .ref F.2.2.2.2.1, .int (F.2.2.2.2.2.2 (iv + 2).toNatClampNeg), .int (F.2.2.2.2.2.2 (iv + 1).toNatClampNeg), .ref b, .int x]) k_Law_law rfl rfl ?_
  refine gx_p (L' := [some (.ref F.2.2.2.2.1), some (.ref a), some (.ref b), some (.ref o), some (.int iv), x5, x6]) (st' := [.int 3, .int iv, .ref F.2.2.2.2.1, .int (F.2.2.2.2.2.2 (iv + 2).toNatClampNeg), .int (F.2.2.2.2.2.2 (iv + 1).toNatClampNeg), .ref b, .int x]) k_Law_law rfl rfl ?_
  refine gx_p (L' := [some (.ref F.2.2.2.2.1), some (.ref a), some (.ref b), some (.ref o), some (.int iv), x5, x6]) (st' := [.int (iv + 3), .ref F.2.2.2.2.1, .int (F.2.2.2.2.2.2 (iv + 2).toNatClampNeg), .int (F.2.2.2.2.2.2 (iv + 1).toNatClampNeg), .ref b, .int x]) k_Law_law rfl rfl ?_
  refine gx_sl (x := iv + 3) k_Law_law rfl rfl hin.2.2.2 ?_
  refine lw_ivM (d := 2047) (M' := m_Md_differ) (As := [.int (F.2.2.2.2.2.2 (iv + 1).toNatClampNeg), .int (F.2.2.2.2.2.2 (iv + 2).toNatClampNeg), .int (F.2.2.2.2.2.2 (iv + 3).toNatClampNeg)]) (rest := [.int x]) rfl rfl rfl rfl rfl rfl (Nat.le_of_ble_eq_true rfl) hJ1 (c_sp_Md_differ (d := 1437) e1) ?_
  intro h2 hJ2
  refine gx_ic k_Law_law rfl rfl rfl (fun _ => ?_) (fun q => absurd rfl q)
  exact kk σ' c' f h2 x5 x6 hJ2 e3 (lw_Bof e4 e5 e7 (by decide) (by decide))
set_option maxRecDepth 100000 in
theorem lw_c12 (hJ : lw_J a b o B σ c f h) (hR : REL n0 σ c) (hin : lw_in F iv) (kk : lw_Nx l F P a b o n0 B iv σ c) : gx_Go l F 2048 m_Law_law 555 (lw_L F a b o iv x5 x6) [] h P := by
  obtain ⟨x, σ', c', e1, e2, e3, e4, e5, -, e7⟩ := run_k (v := F.2.2.2.2.2.2 (iv + 1).toNatClampNeg) hR
  show gx_Go l F 2048 m_Law_law 555 [some (.ref F.2.2.2.2.1), some (.ref a), some (.ref b), some (.ref o), some (.int iv), x5, x6] [] h P
  refine gx_p (L' := [some (.ref F.2.2.2.2.1), some (.ref a), some (.ref b), some (.ref o), some (.int iv), x5, x6]) (st' := [.ref a]) k_Law_law rfl rfl ?_
  refine gx_p (L' := [some (.ref F.2.2.2.2.1), some (.ref a), some (.ref b), some (.ref o), some (.int iv), x5, x6]) (st' := [.ref F.2.2.2.2.1, .ref a]) k_Law_law rfl rfl ?_
  refine gx_p (L' := [some (.ref F.2.2.2.2.1), some (.ref a), some (.ref b), some (.ref o), some (.int iv), x5, x6]) (st' := [.int iv, .ref F.2.2.2.2.1, .ref a]) k_Law_law rfl rfl ?_
  refine gx_p (L' := [some (.ref F.2.2.2.2.1), some (.ref a), some (.ref b), some (.ref o), some (.int iv), x5, x6]) (st' := [.int 1, .int iv, .ref F.2.2.2.2.1, .ref a]) k_Law_law rfl rfl ?_
  refine gx_p (L' := [some (.ref F.2.2.2.2.1), some (.ref a), some (.ref b), some (.ref o), some (.int iv), x5, x6]) (st' := [.int (iv + 1), .ref F.2.2.2.2.1, .ref a]) k_Law_law rfl rfl ?_
  refine gx_sl (x := iv + 1) k_Law_law rfl rfl hin.2.1 ?_
  refine lw_ivH (d := 2047) (M' := m_H_run) (As := [.int (F.2.2.2.2.2.2 (iv + 1).toNatClampNeg)]) (rest := []) rfl rfl rfl rfl rfl rfl (Nat.le_of_ble_eq_true rfl) hJ (c_sp_H_run (d := 2046) e2) ?_
  intro h1 hJ1
  refine gx_p (L' := [some (.ref F.2.2.2.2.1), some (.ref a), some (.ref b), some (.ref o), some (.int iv), x5, x6]) (st' := [.ref b, .int x]) k_Law_law rfl rfl ?_
  refine gx_p (L' := [some (.ref F.2.2.2.2.1), some (.ref a), some (.ref b), some (.ref o), some (.int iv), x5, x6]) (st' := [.ref F.2.2.2.2.1, .ref b, .int x]) k_Law_law rfl rfl ?_
  refine gx_p (L' := [some (.ref F.2.2.2.2.1), some (.ref a), some (.ref b), some (.ref o), some (.int iv), x5, x6]) (st' := [.int iv, .ref F.2.2.2.2.1, .ref b, .int x]) k_Law_law rfl rfl ?_
  refine gx_p (L' := [some (.ref F.2.2.2.2.1), some (.ref a), some (.ref b), some (.ref o), some (.int iv), x5, x6]) (st' := [.int 1, .int iv, .ref F.2.2.2.2.1, .ref b, .int x]) k_Law_law rfl rfl ?_
  refine gx_p (L' := [some (.ref F.2.2.2.2.1), some (.ref a), some (.ref b), some (.ref o), some (.int iv), x5, x6]) (st' := [.int (iv + 1), .ref F.2.2.2.2.1, .ref b, .int x]) k_Law_law rfl rfl ?_
  refine gx_sl (x := iv + 1) k_Law_law rfl rfl hin.2.1 ?_
  refine lw_ivM (d := 2047) (M' := m_Md_run) (As := [.int (F.2.2.2.2.2.2 (iv + 1).toNatClampNeg)]) (rest := [.int x]) rfl rfl rfl rfl rfl rfl (Nat.le_of_ble_eq_true rfl) hJ1 (c_sp_Md_run (d := 2046) e1) ?_
  intro h2 hJ2
  refine gx_ic k_Law_law rfl rfl rfl (fun _ => ?_) (fun q => absurd rfl q)
  exact kk σ' c' f h2 x5 x6 hJ2 e3 (lw_Bof e4 e5 e7 (by decide) (by decide))
set_option maxRecDepth 100000 in
theorem lw_c13 (hJ : lw_J a b o B σ c f h) (hR : REL n0 σ c) (hin : lw_in F iv) (kk : lw_Nx l F P a b o n0 B iv σ c) : gx_Go l F 2048 m_Law_law 580 (lw_L F a b o iv x5 x6) [] h P := by
  obtain ⟨x, σ', c', e1, e2, e3, e4, e5, -, e7⟩ := total_k (v := F.2.2.2.2.2.2 (iv + 1).toNatClampNeg) hR
  show gx_Go l F 2048 m_Law_law 580 [some (.ref F.2.2.2.2.1), some (.ref a), some (.ref b), some (.ref o), some (.int iv), x5, x6] [] h P
  refine gx_p (L' := [some (.ref F.2.2.2.2.1), some (.ref a), some (.ref b), some (.ref o), some (.int iv), x5, x6]) (st' := [.ref a]) k_Law_law rfl rfl ?_
  refine gx_p (L' := [some (.ref F.2.2.2.2.1), some (.ref a), some (.ref b), some (.ref o), some (.int iv), x5, x6]) (st' := [.ref F.2.2.2.2.1, .ref a]) k_Law_law rfl rfl ?_
  refine gx_p (L' := [some (.ref F.2.2.2.2.1), some (.ref a), some (.ref b), some (.ref o), some (.int iv), x5, x6]) (st' := [.int iv, .ref F.2.2.2.2.1, .ref a]) k_Law_law rfl rfl ?_
  refine gx_p (L' := [some (.ref F.2.2.2.2.1), some (.ref a), some (.ref b), some (.ref o), some (.int iv), x5, x6]) (st' := [.int 1, .int iv, .ref F.2.2.2.2.1, .ref a]) k_Law_law rfl rfl ?_
  refine gx_p (L' := [some (.ref F.2.2.2.2.1), some (.ref a), some (.ref b), some (.ref o), some (.int iv), x5, x6]) (st' := [.int (iv + 1), .ref F.2.2.2.2.1, .ref a]) k_Law_law rfl rfl ?_
  refine gx_sl (x := iv + 1) k_Law_law rfl rfl hin.2.1 ?_
  refine lw_ivH (d := 2047) (M' := m_H_total) (As := [.int (F.2.2.2.2.2.2 (iv + 1).toNatClampNeg)]) (rest := []) rfl rfl rfl rfl rfl rfl (Nat.le_of_ble_eq_true rfl) hJ (c_sp_H_total (d := 2047) e2) ?_
  intro h1 hJ1
  refine gx_p (L' := [some (.ref F.2.2.2.2.1), some (.ref a), some (.ref b), some (.ref o), some (.int iv), x5, x6]) (st' := [.ref b, .int x]) k_Law_law rfl rfl ?_
  refine gx_p (L' := [some (.ref F.2.2.2.2.1), some (.ref a), some (.ref b), some (.ref o), some (.int iv), x5, x6]) (st' := [.ref F.2.2.2.2.1, .ref b, .int x]) k_Law_law rfl rfl ?_
  refine gx_p (L' := [some (.ref F.2.2.2.2.1), some (.ref a), some (.ref b), some (.ref o), some (.int iv), x5, x6]) (st' := [.int iv, .ref F.2.2.2.2.1, .ref b, .int x]) k_Law_law rfl rfl ?_
  refine gx_p (L' := [some (.ref F.2.2.2.2.1), some (.ref a), some (.ref b), some (.ref o), some (.int iv), x5, x6]) (st' := [.int 1, .int iv, .ref F.2.2.2.2.1, .ref b, .int x]) k_Law_law rfl rfl ?_
  refine gx_p (L' := [some (.ref F.2.2.2.2.1), some (.ref a), some (.ref b), some (.ref o), some (.int iv), x5, x6]) (st' := [.int (iv + 1), .ref F.2.2.2.2.1, .ref b, .int x]) k_Law_law rfl rfl ?_
  refine gx_sl (x := iv + 1) k_Law_law rfl rfl hin.2.1 ?_
  refine lw_ivM (d := 2047) (M' := m_Md_total) (As := [.int (F.2.2.2.2.2.2 (iv + 1).toNatClampNeg)]) (rest := [.int x]) rfl rfl rfl rfl rfl rfl (Nat.le_of_ble_eq_true rfl) hJ1 (c_sp_Md_total (d := 2047) e1) ?_
  intro h2 hJ2
  refine gx_ic k_Law_law rfl rfl rfl (fun _ => ?_) (fun q => absurd rfl q)
  exact kk σ' c' f h2 x5 x6 hJ2 e3 (lw_Bof e4 e5 e7 (by decide) (by decide))
end LC0
