/-! THE REFERENCE'S STATE: its numbers by field, its arrays by field; the machine over it (no heap in sight) -/
abbrev gm_S : Type := (Nat → Int32) × (Nat → Nat → Int32)
def gm_fs (A : Nat → Nat) (r : Nat → Int32) : List Value := [.int (r 0), .int (r 1), .ref (A 2), .int (r 3), .ref (A 4), .int (r 5), .ref (A 6), .int (r 7), .int (r 8), .int (r 9), .int (r 10), .ref (A 11), .ref (A 12), .ref (A 13), .ref (A 14), .ref (A 15), .ref (A 16), .ref (A 17), .ref (A 18), .int (r 19), .ref (A 20), .ref (A 21), .ref (A 22), .ref (A 23), .ref (A 24), .ref (A 25), .ref (A 26), .int (r 27), .int (r 28), .int (r 29), .ref (A 30), .ref (A 31), .int (r 32), .ref (A 33), .int (r 34), .int (r 35), .int (r 36), .int (r 37), .ref (A 38), .int (r 39), .int (r 40), .int (r 41), .int (r 42), .int (r 43), .int (r 44), .ref (A 45), .ref (A 46), .ref (A 47), .ref (A 48), .ref (A 49), .int (r 50), .int (r 51), .ref (A 52), .ref (A 53), .ref (A 54), .int (r 55), .ref (A 56), .int (r 57), .int (r 58), .int (r 59)]
def gm_ln (k : Nat) : Nat := match k with
  | 2 => 500
  | 4 => 500
  | 6 => 500
  | 11 => 7
  | 12 => 7
  | 13 => 182
  | 14 => 7
  | 15 => 182
  | 16 => 7
  | 17 => 7
  | 18 => 210
  | 20 => 2600
  | 21 => 2600
  | 22 => 2600
  | 23 => 2600
  | 24 => 2600
  | 25 => 2600
  | 26 => 2600
  | 30 => 5
  | 31 => 26
  | 33 => 64
  | 38 => 26
  | 45 => 8
  | 46 => 8
  | 47 => 8
  | 48 => 8
  | 49 => 8
  | 52 => 600
  | 53 => 300
  | 54 => 300
  | 56 => 301
  | _ => 0
def gm_up (g : Nat → Nat → Int32) (k : Nat) (f : Nat → Int32) : Nat → Nat → Int32 := fun j => if j = k then f else g j
/-- the cells of the reference hold the state -/
def gm_At (a : Nat) (A : Nat → Nat) (σ : gm_S) (h : gx_H) : Prop := h.2.2 a = some (.inr (7, gm_fs A σ.1)) ∧ (∀ k, gm_ln k ≠ 0 → h.2.2 (A k) = some (.inl (0, gm_ln k, .inl (σ.2 k)))) ∧ ∀ k j, gm_ln k ≠ 0 → gm_ln j ≠ 0 → A k = A j → k = j
/-- nothing else has changed, nothing was made -/
def gm_Fr (a : Nat) (A : Nat → Nat) (h h' : gx_H) : Prop := h'.1 = h.1 ∧ h'.2.1 = h.2.1 ∧ ∀ q, q ≠ a → (∀ k, gm_ln k ≠ 0 → q ≠ A k) → h'.2.2 q = h.2.2 q
theorem gm_Fr.rf {a : Nat} {A : Nat → Nat} {h : gx_H} : gm_Fr a A h h := ⟨rfl, rfl, fun _ _ _ => rfl⟩
theorem gm_Fr.tr {a : Nat} {A : Nat → Nat} {h h1 h2 : gx_H} (x : gm_Fr a A h h1) (y : gm_Fr a A h1 h2) : gm_Fr a A h h2 := ⟨y.1.trans x.1, y.2.1.trans x.2.1, fun q h1 h2 => (y.2.2 q h1 h2).trans (x.2.2 q h1 h2)⟩
def gm_Go (l : Launch) (F : gx_F) (d : Nat) (M : gx_M) (a : Nat) (A : Nat → Nat) (pc : Nat) (L : List (Option Value)) (st : List Value) (σ : gm_S) (P : Option Value → gm_S → Prop) : Prop :=
  ∀ h0 h : gx_H, gm_At a A σ h → gm_Fr a A h0 h → gx_Go l F d M pc L st h (fun r => ∃ v, r.1 = .inl v ∧ ∃ σ', P v σ' ∧ gm_At a A σ' r.2 ∧ gm_Fr a A h0 r.2)
/-- a contract of the reference's own method -/
def gm_Has (l : Launch) (F : gx_F) (d : Nat) (M : gx_M) (a : Nat) (A : Nat → Nat) (As : List Value) (σ : gm_S) (P : Option Value → gm_S → Prop) : Prop :=
  ∀ h : gx_H, gm_At a A σ h → gx_Has l F d M (.ref a :: As) h (fun v h' => ∃ σ', P v σ' ∧ gm_At a A σ' h' ∧ gm_Fr a A h h')
section GM
variable {l : Launch} {F : gx_F} {d : Nat} {M M' : gx_M} {a : Nat} {A : Nat → Nat} {pc : Nat} {L : List (Option Value)} {st : List Value} {σ : gm_S} {P : Option Value → gm_S → Prop} {Pm : Option Value → gm_S → Prop} {Ps : Option Value → gx_H → Prop}
theorem gm_meth {As : List Value} {k : Nat} (hpl : plainName M.1.1.cls = true) (hL : gx_ent (.ref a :: As) ++ List.replicate k none = L) (hn : (lg_sl (.ref a :: As)).length ≤ M.1.2.2.1) (hgo : gm_Go l F d M a A 0 L [] σ P) : gm_Has l F d M a A As σ P := fun h hA => gx_meth hpl hL hn (hgo h h hA gm_Fr.rf)
theorem gm_p {i : gx_I} {L' : List (Option Value)} {st' : List Value} (hM : gx_ok M) (ha : gx_at M.2 pc = some i) (hx : gx_ex M.1.2.2.1 i L st = some (L', st')) (k : gm_Go l F d M a A i.2.2.2.2.1 L' st' σ P) : gm_Go l F d M a A pc L st σ P := fun h0 h h1 h2 => gx_p hM ha hx (k h0 h h1 h2)
theorem gm_if {i : gx_I} {c : Jvm.ClassFile.Cond} {off : Int} {x : Int32} {ct cf : Prop} (hM : gx_ok M) (ha : gx_at M.2 pc = some i) (hi : i.1 = .ifCond c off) (hc : gx_cd0 c x = (ct, cf)) (kt : ct → gm_Go l F d M a A i.2.2.2.2.2.1 L st σ P) (kf : cf → gm_Go l F d M a A i.2.2.2.2.1 L st σ P) : gm_Go l F d M a A pc L (.int x :: st) σ P := fun h0 h h1 h2 => gx_if hM ha hi hc (fun q => kt q h0 h h1 h2) (fun q => kf q h0 h h1 h2)
theorem gm_ic {i : gx_I} {c : Jvm.ClassFile.Cond} {off : Int} {x y : Int32} {ct cf : Prop} (hM : gx_ok M) (ha : gx_at M.2 pc = some i) (hi : i.1 = .if_icmp c off) (hc : gx_cd2 c x y = (ct, cf)) (kt : ct → gm_Go l F d M a A i.2.2.2.2.2.1 L st σ P) (kf : cf → gm_Go l F d M a A i.2.2.2.2.1 L st σ P) : gm_Go l F d M a A pc L (.int y :: .int x :: st) σ P := fun h0 h h1 h2 => gx_ic hM ha hi hc (fun q => kt q h0 h h1 h2) (fun q => kf q h0 h h1 h2)
theorem gm_j {i : gx_I} {b : Bool} {st' : List Value} (hM : gx_ok M) (ha : gx_at M.2 pc = some i) (hx : gx_jp i.1 st = some (b, st')) (k : gm_Go l F d M a A (gx_jt b i) L st' σ P) : gm_Go l F d M a A pc L st σ P := fun h0 h h1 h2 => gx_j hM ha hx (k h0 h h1 h2)
theorem gm_ret {i : gx_I} {v : Option Value} (hM : gx_ok M) (ha : gx_at M.2 pc = some i) (hi : i.1 = gx_rins M.1.2.2.2.1) (hn : gx_nar M.1.2.2.2.1 v) (hs : st = v.toList) (hp : P v σ) : gm_Go l F d M a A pc L st σ P := fun h0 h h1 h2 => gx_ret hM ha hi hn hs ⟨v, rfl, σ, hp, h1, h2⟩
theorem gm_l2w {i : gx_I} {idx : Nat} (hM : gx_ok M) (ha : gx_at M.2 pc = some i) (hi : i.1 = .ldc2_w idx) (kk : gm_Go l F d M a A i.2.2.2.2.1 L (.long i.2.2.2.1 :: st) σ P) : gm_Go l F d M a A pc L st σ P := fun h0 h h1 h2 => gx_l2w hM ha hi (kk h0 h h1 h2)
theorem gm_tI {i : gx_I} {dflt lo hi9 off : Int} {offs : Array Int} {x : Int32} {tgt : Nat} (hM : gx_ok M) (ha : gx_at M.2 pc = some i) (hi : i.1 = .tableswitch dflt lo hi9 offs) (h1 : ¬ x.toInt < lo) (h2 : ¬ hi9 < x.toInt) (ho : offs[(x.toInt - lo).toNat]? = some off) (ht : (pc : Int) + off = (tgt : Int)) (kk : gm_Go l F d M a A tgt L st σ P) : gm_Go l F d M a A pc L (.int x :: st) σ P := fun h0 h g1 g2 => gx_tI hM ha hi h1 h2 ho ht (kk h0 h g1 g2)
theorem gm_tO {i : gx_I} {dflt lo hi9 : Int} {offs : Array Int} {x : Int32} {tgt : Nat} (hM : gx_ok M) (ha : gx_at M.2 pc = some i) (hi : i.1 = .tableswitch dflt lo hi9 offs) (h1 : x.toInt < lo ∨ hi9 < x.toInt) (ht : (pc : Int) + dflt = (tgt : Int)) (kk : gm_Go l F d M a A tgt L st σ P) : gm_Go l F d M a A pc L (.int x :: st) σ P := fun h0 h g1 g2 => gx_tO hM ha hi h1 ht (kk h0 h g1 g2)
theorem gm_lk {i : gx_I} {dflt off : Int} {ps : Array (Int × Int)} {x : Int32} {tgt : Nat} (hM : gx_ok M) (ha : gx_at M.2 pc = some i) (hi : i.1 = .lookupswitch dflt ps) (hp : (ps.toList.zip (ps.toList.drop 1)).all (fun (a, next) => a.1 < next.1) = true) (ho : Op.lookupswitch.offset ps.toList dflt x.toInt = off) (ht : (pc : Int) + off = (tgt : Int)) (kk : gm_Go l F d M a A tgt L st σ P) : gm_Go l F d M a A pc L (.int x :: st) σ P := fun h0 h g1 g2 => gx_lk hM ha hi hp ho ht (kk h0 h g1 g2)
/-- a field of its own is read: a number, or an array -/
theorem gm_g {i : gx_I} {idx k nest tc : Nat} {v : Value} (hM : gx_ok M) (ha : gx_at M.2 pc = some i) (hi : i.1 = .getfield idx) (hx : i.2.2.2.2.2.2.1 = [7, k, nest, tc]) (hv : (gm_fs A σ.1)[k]? = some v) (kk : gm_Go l F d M a A i.2.2.2.2.1 L (v :: st) σ P) : gm_Go l F d M a A pc L (.ref a :: st) σ P := fun h0 h h1 h2 => gx_gf hM ha hi hx h1.1 hv (kk h0 h h1 h2)
theorem gm_set_self {h : gx_H} {a : Nat} {c : gx_C} : (gx_set h a c).2.2 a = some c := if_pos rfl
theorem gm_set_ne {h : gx_H} {a b : Nat} {c : gx_C} (hb : b ≠ a) : (gx_set h a c).2.2 b = h.2.2 b := if_neg hb
/-- a number of its own is written -/
theorem gm_pt {i : gx_I} {idx k nest tc : Nat} {x : Int32} (hM : gx_ok M) (ha : gx_at M.2 pc = some i) (hi : i.1 = .putfield idx) (hx : i.2.2.2.2.2.2.1 = [7, k, nest, tc]) (hf : gx_fit tc (.int x)) (hl : k < 60) (hs : (gm_fs A σ.1).set k (.int x) = gm_fs A (upd σ.1 k x)) (kk : gm_Go l F d M a A i.2.2.2.2.1 L st (upd σ.1 k x, σ.2) P) : gm_Go l F d M a A pc L (.int x :: .ref a :: st) σ P := by
  intro h0 h h1 h2
  refine gx_pf hM ha hi hx h1.1 hl hf ?_
  have hne : ∀ j, gm_ln j ≠ 0 → A j ≠ a := fun j hj hq => by
    have h3 := h1.2.1 j hj
    rw [hq, h1.1] at h3
    cases h3
  refine kk h0 _ ⟨by rw [gm_set_self, hs], fun j hj => by rw [gm_set_ne (hne j hj)]; exact h1.2.1 j hj, h1.2.2⟩ ⟨h2.1, h2.2.1, fun q g1 g2 => (gm_set_ne g1).trans (h2.2.2 q g1 g2)⟩
theorem gm_ld {i : gx_I} {k : Nat} {x : Int32} (hM : gx_ok M) (ha : gx_at M.2 pc = some i) (hi : i.1 = .iaload) (hin : vp_in x (gm_ln k)) (hk : gm_ln k ≠ 0) (kk : gm_Go l F d M a A i.2.2.2.2.1 L (.int (σ.2 k x.toNatClampNeg) :: st) σ P) : gm_Go l F d M a A pc L (.int x :: .ref (A k) :: st) σ P := fun h0 h h1 h2 => gx_il1 hM ha hi rfl (h1.2.1 k hk) hin (kk h0 h h1 h2)
theorem gm_sto {i : gx_I} {k : Nat} {x v : Int32} (hM : gx_ok M) (ha : gx_at M.2 pc = some i) (hi : i.1 = .iastore) (hin : vp_in x (gm_ln k)) (hk : gm_ln k ≠ 0) (kk : gm_Go l F d M a A i.2.2.2.2.1 L st (σ.1, gm_up σ.2 k (upd (σ.2 k) x.toNatClampNeg v)) P) : gm_Go l F d M a A pc L (.int v :: .int x :: .ref (A k) :: st) σ P := by
  intro h0 h h1 h2
  refine gx_is1 hM ha hi rfl (h1.2.1 k hk) hin ?_
  have hne : a ≠ A k := fun hq => by
    have h3 := h1.2.1 k hk
    rw [← hq, h1.1] at h3
    cases h3
  refine kk h0 _ ⟨by rw [gm_set_ne hne]; exact h1.1, fun j hj => ?_, h1.2.2⟩ ⟨h2.1, h2.2.1, fun q g1 g2 => (gm_set_ne (g2 k hk)).trans (h2.2.2 q g1 g2)⟩
  by_cases hjk : j = k
  · subst hjk
    rw [gm_set_self]
    simp [gm_up]
  · rw [gm_set_ne (fun hq => hjk (h1.2.2 j k hj hk hq))]
    have h3 : gm_up σ.2 k (upd (σ.2 k) x.toNatClampNeg v) j = σ.2 j := if_neg hjk
    rw [show (σ.1, gm_up σ.2 k (upd (σ.2 k) x.toNatClampNeg v)).2 j = σ.2 j from h3]
    exact h1.2.1 j hj
/-- a call of another method of its own -/
theorem gm_iv {i : gx_I} {idx : Nat} {As rest : List Value} (hM : gx_ok M) (ha : gx_at M.2 pc = some i) (hi : i.1 = .invokevirtual idx) (hy : i.2.2.2.2.2.2.2 = M'.1) (hn : As.length = M'.1.2.2.2.2) (hs : st = As.reverse ++ .ref a :: rest) (hcn : M'.1.1.cls = gx_c7.1) (hw : (rest.map fun v => v.category).sum ≤ 8)
    (hm : gm_Has l F d M' a A As σ Pm) (kk : ∀ v σ', gx_nar M'.1.2.2.2.1 v → Pm v σ' → gm_Go l F (d + 1) M a A i.2.2.2.2.1 L (v.toList ++ rest) σ' P) : gm_Go l F (d + 1) M a A pc L st σ P := by
  intro h0 h h1 h2
  refine gx_iv (r := gx_c7) hM ha hi hy hn hs h1.1 rfl hcn hw (hm h h1) fun v h' hv hp => ?_
  obtain ⟨σ', p1, p2, p3⟩ := hp
  exact kk v σ' hv p1 h0 h' p2 (h2.tr p3)
/-- the same, of a method whose answer and end are known -/
theorem gm_ivE {i : gx_I} {idx : Nat} {As rest : List Value} {e : Value} {σ1 : gm_S} (hM : gx_ok M) (ha : gx_at M.2 pc = some i) (hi : i.1 = .invokevirtual idx) (hy : i.2.2.2.2.2.2.2 = M'.1) (hn : As.length = M'.1.2.2.2.2) (hs : st = As.reverse ++ .ref a :: rest) (hcn : M'.1.1.cls = gx_c7.1) (hw : (rest.map fun v => v.category).sum ≤ 8)
    (hm : gm_Has l F d M' a A As σ (fun v σ' => v = some e ∧ σ' = σ1)) (kk : gm_Go l F (d + 1) M a A i.2.2.2.2.1 L (e :: rest) σ1 P) : gm_Go l F (d + 1) M a A pc L st σ P := by
  refine gm_iv hM ha hi hy hn hs hcn hw hm fun v σ' _ hq => ?_
  obtain ⟨rfl, rfl⟩ := hq
  exact kk
/-- the same, of a method without an answer -/
theorem gm_ivV {i : gx_I} {idx : Nat} {As rest : List Value} {σ1 : gm_S} (hM : gx_ok M) (ha : gx_at M.2 pc = some i) (hi : i.1 = .invokevirtual idx) (hy : i.2.2.2.2.2.2.2 = M'.1) (hn : As.length = M'.1.2.2.2.2) (hs : st = As.reverse ++ .ref a :: rest) (hcn : M'.1.1.cls = gx_c7.1) (hw : (rest.map fun v => v.category).sum ≤ 8)
    (hm : gm_Has l F d M' a A As σ (fun v σ' => v = none ∧ σ' = σ1)) (kk : gm_Go l F (d + 1) M a A i.2.2.2.2.1 L rest σ1 P) : gm_Go l F (d + 1) M a A pc L st σ P := by
  refine gm_iv hM ha hi hy hn hs hcn hw hm fun v σ' _ hq => ?_
  obtain ⟨rfl, rfl⟩ := hq
  exact kk
/-- a call of a static method that reads nothing -/
theorem gm_is {i : gx_I} {idx : Nat} {As rest : List Value} {e : Value} (hM : gx_ok M) (ha : gx_at M.2 pc = some i) (hi : i.1 = .invokestatic idx) (hx : i.2.2.2.2.2.2.1 = [2]) (hy : i.2.2.2.2.2.2.2 = M'.1) (hn : As.length = M'.1.2.2.2.2) (hs : st = As.reverse ++ rest) (hw : (rest.map fun v => v.category).sum ≤ 8)
    (hm : ∀ h, gx_Has l F d M' As h (fun v h' => v = some e ∧ h' = h)) (kk : gm_Go l F (d + 1) M a A i.2.2.2.2.1 L (e :: rest) σ P) : gm_Go l F (d + 1) M a A pc L st σ P := by
  intro h0 h h1 h2
  refine gx_is hM ha hi hx hy hn hs hw (hm h) fun v h' hv hp => ?_
  obtain ⟨p1, p2⟩ := hp
  subst p1
  subst p2
  exact kk h0 h' h1 h2
end GM
