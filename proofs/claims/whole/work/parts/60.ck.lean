/-! THE CLASS'S STATE: one object of its own with numbers, arrays and references; all other cells that are known (E); the next address; the slots -/
abbrev ck_K : Type := Nat × ((Nat → Nat) → (Nat → Int32) → (Nat → Option Nat) → List Value) × (Nat → Nat) × (Nat → Nat)
abbrev ck_E : Type := Nat → Option gx_C
abbrev ck_S : Type := (Nat → Int32) × (Nat → Nat → Int32) × (Nat → Option Nat) × ck_E × Nat × Nat
def eset (E : ck_E) (b : Nat) (c : gx_C) : ck_E := fun q => if q = b then some c else E q
def ck_no (K : ck_K) (a : Nat) (A : Nat → Nat) (q : Nat) : Prop := q ≠ a ∧ ∀ k, K.2.2.1 k ≠ 0 → q ≠ A k
def ck_At (K : ck_K) (a : Nat) (A : Nat → Nat) (σ : ck_S) (h : gx_H) : Prop :=
  h.1 = σ.2.2.2.2.1 ∧ h.2.1 = σ.2.2.2.2.2 ∧ h.2.2 a = some (.inr (K.1, K.2.1 A σ.1 σ.2.2.1)) ∧ (∀ k, K.2.2.1 k ≠ 0 → h.2.2 (A k) = some (.inl (K.2.2.2 k, K.2.2.1 k, .inl (σ.2.1 k)))) ∧ (∀ k j, K.2.2.1 k ≠ 0 → K.2.2.1 j ≠ 0 → A k = A j → k = j) ∧ (∀ n c, σ.2.2.2.1 n = some c → h.2.2 n = some c ∧ ck_no K a A n) ∧ ∀ n, σ.2.2.2.2.1 ≤ n → σ.2.2.2.1 n = none ∧ ck_no K a A n
def ck_Fr (K : ck_K) (a : Nat) (A : Nat → Nat) (σ0 : ck_S) (h0 : gx_H) (σ : ck_S) (h : gx_H) : Prop :=
  σ0.2.2.2.2.1 ≤ σ.2.2.2.2.1 ∧ ∀ q, q < σ0.2.2.2.2.1 → σ0.2.2.2.1 q = none → σ.2.2.2.1 q = none ∧ (ck_no K a A q → h.2.2 q = h0.2.2 q)
theorem ck_Fr.rf {K : ck_K} {a : Nat} {A : Nat → Nat} {σ : ck_S} {h : gx_H} : ck_Fr K a A σ h σ h := ⟨Nat.le_refl _, fun _ _ h1 => ⟨h1, fun _ => rfl⟩⟩
theorem ck_Fr.tr {K : ck_K} {a : Nat} {A : Nat → Nat} {σ σ1 σ2 : ck_S} {h h1 h2 : gx_H} (x : ck_Fr K a A σ h σ1 h1) (y : ck_Fr K a A σ1 h1 σ2 h2) : ck_Fr K a A σ h σ2 h2 := by
  refine ⟨Nat.le_trans x.1 y.1, fun q hq he => ?_⟩
  obtain ⟨g1, g2⟩ := x.2 q hq he
  obtain ⟨g3, g4⟩ := y.2 q (Nat.lt_of_lt_of_le hq x.1) g1
  exact ⟨g3, fun hn => (g4 hn).trans (g2 hn)⟩
section CK1
variable {K : ck_K} {a : Nat} {A : Nat → Nat} {σ σ0 : ck_S} {h h0 : gx_H}
theorem ck_ne (hA : ck_At K a A σ h) {k : Nat} (hk : K.2.2.1 k ≠ 0) : A k ≠ a := fun hq => by
  have h3 := hA.2.2.2.1 k hk
  rw [hq, hA.2.2.1] at h3
  cases h3
/-- its own object written -/
theorem ck_wO (hA : ck_At K a A σ h) (hF : ck_Fr K a A σ0 h0 σ h) {ρ : Nat → Int32} {κ : Nat → Option Nat} : ck_At K a A (ρ, σ.2.1, κ, σ.2.2.2) (gx_set h a (.inr (K.1, K.2.1 A ρ κ))) ∧ ck_Fr K a A σ0 h0 (ρ, σ.2.1, κ, σ.2.2.2) (gx_set h a (.inr (K.1, K.2.1 A ρ κ))) := by
  refine ⟨⟨hA.1, hA.2.1, gm_set_self, fun k hk => (gm_set_ne (ck_ne hA hk)).trans (hA.2.2.2.1 k hk), hA.2.2.2.2.1, fun n c hn => ?_, hA.2.2.2.2.2.2⟩, hF.1, fun q h1 h2 => ?_⟩
  · obtain ⟨g1, g2⟩ := hA.2.2.2.2.2.1 n c hn
    exact ⟨(gm_set_ne g2.1).trans g1, g2⟩
  · obtain ⟨g1, g2⟩ := hF.2 q h1 h2
    exact ⟨g1, fun hn => (gm_set_ne hn.1).trans (g2 hn)⟩
theorem ck_wA (hA : ck_At K a A σ h) (hF : ck_Fr K a A σ0 h0 σ h) {k : Nat} (hk : K.2.2.1 k ≠ 0) {f : Nat → Int32} : ck_At K a A (σ.1, gm_up σ.2.1 k f, σ.2.2) (gx_set h (A k) (.inl (K.2.2.2 k, K.2.2.1 k, .inl f))) ∧ ck_Fr K a A σ0 h0 (σ.1, gm_up σ.2.1 k f, σ.2.2) (gx_set h (A k) (.inl (K.2.2.2 k, K.2.2.1 k, .inl f))) := by
  refine ⟨⟨hA.1, hA.2.1, (gm_set_ne (Ne.symm (ck_ne hA hk))).trans hA.2.2.1, fun j hj => ?_, hA.2.2.2.2.1, fun n c hn => ?_, hA.2.2.2.2.2.2⟩, hF.1, fun q h1 h2 => ?_⟩
  · by_cases hjk : j = k
    · subst hjk
      rw [gm_set_self]
      simp [gm_up]
    · rw [gm_set_ne (fun hq => hjk (hA.2.2.2.2.1 j k hj hk hq))]
      have h3 : gm_up σ.2.1 k f j = σ.2.1 j := if_neg hjk
      show _ = some (Sum.inl (_, _, Sum.inl (gm_up σ.2.1 k f j)))
      rw [h3]
      exact hA.2.2.2.1 j hj
  · obtain ⟨g1, g2⟩ := hA.2.2.2.2.2.1 n c hn
    exact ⟨(gm_set_ne (g2.2 k hk)).trans g1, g2⟩
  · obtain ⟨g1, g2⟩ := hF.2 q h1 h2
    exact ⟨g1, fun hn => (gm_set_ne (hn.2 k hk)).trans (g2 hn)⟩
theorem ck_wE (hA : ck_At K a A σ h) (hF : ck_Fr K a A σ0 h0 σ h) {b : Nat} {c0 c : gx_C} (hb : σ.2.2.2.1 b = some c0) : ck_At K a A (σ.1, σ.2.1, σ.2.2.1, eset σ.2.2.2.1 b c, σ.2.2.2.2) (gx_set h b c) ∧ ck_Fr K a A σ0 h0 (σ.1, σ.2.1, σ.2.2.1, eset σ.2.2.2.1 b c, σ.2.2.2.2) (gx_set h b c) := by
  obtain ⟨b1, b2⟩ := hA.2.2.2.2.2.1 b c0 hb
  refine ⟨⟨hA.1, hA.2.1, (gm_set_ne (Ne.symm b2.1)).trans hA.2.2.1, fun k hk => (gm_set_ne (Ne.symm (b2.2 k hk))).trans (hA.2.2.2.1 k hk), hA.2.2.2.2.1, fun n c' hn => ?_, fun n hn => ?_⟩, hF.1, fun q h1 h2 => ?_⟩
  · by_cases hq : n = b
    · subst hq
      have h3 : eset σ.2.2.2.1 n c n = some c := if_pos rfl
      have h4 : some c = some c' := h3.symm.trans hn
      cases h4
      exact ⟨gm_set_self, b2⟩
    · have h3 : eset σ.2.2.2.1 b c n = σ.2.2.2.1 n := if_neg hq
      obtain ⟨g1, g2⟩ := hA.2.2.2.2.2.1 n c' (h3.symm.trans hn)
      exact ⟨(gm_set_ne hq).trans g1, g2⟩
  · obtain ⟨g1, g2⟩ := hA.2.2.2.2.2.2 n hn
    refine ⟨(if_neg fun hq => ?_).trans g1, g2⟩
    subst hq
    rw [hb] at g1
    cases g1
  · obtain ⟨g1, g2⟩ := hF.2 q h1 h2
    have hq : q ≠ b := fun e => by
      subst e
      rw [hb] at g1
      cases g1
    exact ⟨(if_neg hq).trans g1, fun hn => (gm_set_ne hq).trans (g2 hn)⟩
theorem ck_wN (hA : ck_At K a A σ h) (hF : ck_Fr K a A σ0 h0 σ h) {n : Nat} {c : gx_C} : ck_At K a A (σ.1, σ.2.1, σ.2.2.1, eset σ.2.2.2.1 σ.2.2.2.2.1 c, σ.2.2.2.2.1 + 1, σ.2.2.2.2.2 + n) (gx_push h n c) ∧ ck_Fr K a A σ0 h0 (σ.1, σ.2.1, σ.2.2.1, eset σ.2.2.2.1 σ.2.2.2.2.1 c, σ.2.2.2.2.1 + 1, σ.2.2.2.2.2 + n) (gx_push h n c) := by
  obtain ⟨n1, n2⟩ := hA.2.2.2.2.2.2 _ (Nat.le_refl _)
  have pne : ∀ q, q ≠ σ.2.2.2.2.1 → (gx_push h n c).2.2 q = h.2.2 q := fun q hq => if_neg (fun e => hq (e.trans hA.1))
  refine ⟨⟨by show h.1 + 1 = _; rw [hA.1], by show h.2.1 + n = _; rw [hA.2.1], (pne a (Ne.symm n2.1)).trans hA.2.2.1, fun k hk => (pne _ (Ne.symm (n2.2 k hk))).trans (hA.2.2.2.1 k hk), hA.2.2.2.2.1, fun q c' hq => ?_, fun q hq => ?_⟩, Nat.le_succ_of_le hF.1, fun q h1 h2 => ?_⟩
  · by_cases e : q = σ.2.2.2.2.1
    · have h3 : eset σ.2.2.2.1 σ.2.2.2.2.1 c q = some c := if_pos e
      have h4 : some c = some c' := h3.symm.trans hq
      cases h4
      rw [e]
      exact ⟨if_pos hA.1.symm, n2⟩
    · have h3 : eset σ.2.2.2.1 σ.2.2.2.2.1 c q = σ.2.2.2.1 q := if_neg e
      obtain ⟨g1, g2⟩ := hA.2.2.2.2.2.1 q c' (h3.symm.trans hq)
      exact ⟨(pne q e).trans g1, g2⟩
  · have hq1 : σ.2.2.2.2.1 + 1 ≤ q := hq
    obtain ⟨g1, g2⟩ := hA.2.2.2.2.2.2 q (by omega)
    exact ⟨(if_neg (by omega)).trans g1, g2⟩
  · obtain ⟨g1, g2⟩ := hF.2 q h1 h2
    have hq : q ≠ σ.2.2.2.2.1 := by have := hF.1; omega
    exact ⟨(if_neg hq).trans g1, fun hn => (pne q hq).trans (g2 hn)⟩
end CK1
def ck_Go (l : Launch) (F : gx_F) (d : Nat) (M : gx_M) (K : ck_K) (a : Nat) (A : Nat → Nat) (pc : Nat) (L : List (Option Value)) (st : List Value) (σ : ck_S) (P : Option Value → ck_S → Prop) : Prop :=
  ∀ (σ0 : ck_S) (h0 h : gx_H), ck_At K a A σ h → ck_Fr K a A σ0 h0 σ h → gx_Go l F d M pc L st h (fun r => ∃ v, r.1 = .inl v ∧ ∃ σ', P v σ' ∧ ck_At K a A σ' r.2 ∧ ck_Fr K a A σ0 h0 σ' r.2)
def ck_Has (l : Launch) (F : gx_F) (d : Nat) (M : gx_M) (K : ck_K) (a : Nat) (A : Nat → Nat) (As : List Value) (σ : ck_S) (P : Option Value → ck_S → Prop) : Prop :=
  ∀ h : gx_H, ck_At K a A σ h → gx_Has l F d M As h (fun v h' => ∃ σ', P v σ' ∧ ck_At K a A σ' h' ∧ ck_Fr K a A σ h σ' h')
/-- a field of another cell -/
def eg (E : ck_E) (b ci k : Nat) : Option Value := match E b with
  | some (.inr (c, fs)) => if c = ci then fs[k]? else none
  | _ => none
def egI (E : ck_E) (b ci k : Nat) : Option Int32 := match eg E b ci k with
  | some (.int x) => some x
  | _ => none
def egR (E : ck_E) (b ci k : Nat) : Option (Option Nat) := match eg E b ci k with
  | some .null => some none
  | some (.ref x) => some (some x)
  | _ => none
theorem eg_of {E : ck_E} {b ci k : Nat} {v : Value} (h : eg E b ci k = some v) : ∃ fs, E b = some (.inr (ci, fs)) ∧ fs[k]? = some v := by
  unfold eg at h
  split at h
  · next c fs he =>
    by_cases hc : c = ci
    · rw [if_pos hc] at h
      subst hc
      exact ⟨fs, he, h⟩
    · rw [if_neg hc] at h
      cases h
  · cases h
theorem egI_of {E : ck_E} {b ci k : Nat} {x : Int32} (h : egI E b ci k = some x) : eg E b ci k = some (.int x) := by
  unfold egI at h
  split at h
  · next y hy =>
    cases h
    exact hy
  · cases h
theorem egR_of {E : ck_E} {b ci k : Nat} {x : Option Nat} (h : egR E b ci k = some x) : eg E b ci k = some (va_rf x) := by
  unfold egR at h
  split at h
  · next hy =>
    cases h
    exact hy
  · next y hy =>
    cases h
    exact hy
  · cases h
/-- a field of another cell written -/
def ep (E : ck_E) (b ci k : Nat) (v : Value) : Option ck_E := match E b with
  | some (.inr (c, fs)) => if c = ci then (if k < fs.length then some (eset E b (.inr (ci, fs.set k v))) else none) else none
  | _ => none
theorem ep_of {E E' : ck_E} {b ci k : Nat} {v : Value} (h : ep E b ci k v = some E') : ∃ fs, E b = some (.inr (ci, fs)) ∧ k < fs.length ∧ E' = eset E b (.inr (ci, fs.set k v)) := by
  unfold ep at h
  split at h
  · next c fs he =>
    by_cases hc : c = ci
    · rw [if_pos hc] at h
      subst hc
      by_cases hk : k < fs.length
      · rw [if_pos hk] at h
        cases h
        exact ⟨fs, he, hk, rfl⟩
      · rw [if_neg hk] at h
        cases h
    · rw [if_neg hc] at h
      cases h
  · cases h
section CK2
variable {l : Launch} {F : gx_F} {d : Nat} {M M' : gx_M} {K : ck_K} {a : Nat} {A : Nat → Nat} {pc : Nat} {L : List (Option Value)} {st : List Value} {σ : ck_S} {P : Option Value → ck_S → Prop} {Pm : Option Value → ck_S → Prop}
theorem ck_meth {As : List Value} {k : Nat} (hpl : plainName M.1.1.cls = true) (hL : gx_ent As ++ List.replicate k none = L) (hn : (lg_sl As).length ≤ M.1.2.2.1) (hgo : ck_Go l F d M K a A 0 L [] σ P) : ck_Has l F d M K a A As σ P := fun h hA => gx_meth hpl hL hn (hgo σ h h hA ck_Fr.rf)
theorem ck_p {i : gx_I} {L' : List (Option Value)} {st' : List Value} (hM : gx_ok M) (ha : gx_at M.2 pc = some i) (hx : gx_ex M.1.2.2.1 i L st = some (L', st')) (k : ck_Go l F d M K a A i.2.2.2.2.1 L' st' σ P) : ck_Go l F d M K a A pc L st σ P := fun σ0 h0 h h1 h2 => gx_p hM ha hx (k σ0 h0 h h1 h2)
theorem ck_if {i : gx_I} {c : Jvm.ClassFile.Cond} {off : Int} {x : Int32} {ct cf : Prop} (hM : gx_ok M) (ha : gx_at M.2 pc = some i) (hi : i.1 = .ifCond c off) (hc : gx_cd0 c x = (ct, cf)) (kt : ct → ck_Go l F d M K a A i.2.2.2.2.2.1 L st σ P) (kf : cf → ck_Go l F d M K a A i.2.2.2.2.1 L st σ P) : ck_Go l F d M K a A pc L (.int x :: st) σ P := fun σ0 h0 h h1 h2 => gx_if hM ha hi hc (fun q => kt q σ0 h0 h h1 h2) (fun q => kf q σ0 h0 h h1 h2)
theorem ck_ic {i : gx_I} {c : Jvm.ClassFile.Cond} {off : Int} {x y : Int32} {ct cf : Prop} (hM : gx_ok M) (ha : gx_at M.2 pc = some i) (hi : i.1 = .if_icmp c off) (hc : gx_cd2 c x y = (ct, cf)) (kt : ct → ck_Go l F d M K a A i.2.2.2.2.2.1 L st σ P) (kf : cf → ck_Go l F d M K a A i.2.2.2.2.1 L st σ P) : ck_Go l F d M K a A pc L (.int y :: .int x :: st) σ P := fun σ0 h0 h h1 h2 => gx_ic hM ha hi hc (fun q => kt q σ0 h0 h h1 h2) (fun q => kf q σ0 h0 h h1 h2)
theorem ck_j {i : gx_I} {b : Bool} {st' : List Value} (hM : gx_ok M) (ha : gx_at M.2 pc = some i) (hx : gx_jp i.1 st = some (b, st')) (k : ck_Go l F d M K a A (gx_jt b i) L st' σ P) : ck_Go l F d M K a A pc L st σ P := fun σ0 h0 h h1 h2 => gx_j hM ha hx (k σ0 h0 h h1 h2)
theorem ck_ac {i : gx_I} {c : Jvm.ClassFile.ACond} {off : Int} {x y : Nat} (hM : gx_ok M) (ha : gx_at M.2 pc = some i) (hi : i.1 = .if_acmp c off) (kt : x = y → ck_Go l F d M K a A (gx_jt (decide (c = .eq)) i) L st σ P) (kf : ¬ x = y → ck_Go l F d M K a A (gx_jt (decide (c = .ne)) i) L st σ P) : ck_Go l F d M K a A pc L (.ref y :: .ref x :: st) σ P := fun σ0 h0 h h1 h2 => gx_ac hM ha hi (fun q => kt q σ0 h0 h h1 h2) (fun q => kf q σ0 h0 h h1 h2)
theorem ck_ret {i : gx_I} {v : Option Value} (hM : gx_ok M) (ha : gx_at M.2 pc = some i) (hi : i.1 = gx_rins M.1.2.2.2.1) (hn : gx_nar M.1.2.2.2.1 v) (hs : st = v.toList) (hp : P v σ) : ck_Go l F d M K a A pc L st σ P := fun σ0 h0 h h1 h2 => gx_ret hM ha hi hn hs ⟨v, rfl, σ, hp, h1, h2⟩
theorem ck_tJ {i : gx_I} {dflt lo hi9 off : Int} {offs : Array Int} {x j : Int32} {tgt : Nat} (hM : gx_ok M) (ha : gx_at M.2 pc = some i) (hi : i.1 = .tableswitch dflt lo hi9 offs) (hx : x = j) (h1 : ¬ j.toInt < lo) (h2 : ¬ hi9 < j.toInt) (ho : offs[(j.toInt - lo).toNat]? = some off) (ht : (pc : Int) + off = (tgt : Int)) (kk : ck_Go l F d M K a A tgt L st σ P) : ck_Go l F d M K a A pc L (.int x :: st) σ P := by
  subst hx
  exact fun σ0 h0 h g1 g2 => gx_tI hM ha hi h1 h2 ho ht (kk σ0 h0 h g1 g2)
theorem ck_tO {i : gx_I} {dflt lo hi9 : Int} {offs : Array Int} {x : Int32} {tgt : Nat} (hM : gx_ok M) (ha : gx_at M.2 pc = some i) (hi : i.1 = .tableswitch dflt lo hi9 offs) (h1 : x.toInt < lo ∨ hi9 < x.toInt) (ht : (pc : Int) + dflt = (tgt : Int)) (kk : ck_Go l F d M K a A tgt L st σ P) : ck_Go l F d M K a A pc L (.int x :: st) σ P := fun σ0 h0 h g1 g2 => gx_tO hM ha hi h1 ht (kk σ0 h0 h g1 g2)
theorem ck_lJ {i : gx_I} {dflt off : Int} {ps : Array (Int × Int)} {x j : Int32} {tgt : Nat} (hM : gx_ok M) (ha : gx_at M.2 pc = some i) (hi : i.1 = .lookupswitch dflt ps) (hp : (ps.toList.zip (ps.toList.drop 1)).all (fun (a, next) => a.1 < next.1) = true) (hx : x = j) (ho : Op.lookupswitch.offset ps.toList dflt j.toInt = off) (ht : (pc : Int) + off = (tgt : Int)) (kk : ck_Go l F d M K a A tgt L st σ P) : ck_Go l F d M K a A pc L (.int x :: st) σ P := by
  subst hx
  exact fun σ0 h0 h g1 g2 => gx_lk hM ha hi hp ho ht (kk σ0 h0 h g1 g2)
theorem ck_lO {i : gx_I} {dflt off : Int} {ps : Array (Int × Int)} {x : Int32} {tgt : Nat} (hM : gx_ok M) (ha : gx_at M.2 pc = some i) (hi : i.1 = .lookupswitch dflt ps) (hp : (ps.toList.zip (ps.toList.drop 1)).all (fun (a, next) => a.1 < next.1) = true) (ho : Op.lookupswitch.offset ps.toList dflt x.toInt = off) (ht : (pc : Int) + off = (tgt : Int)) (kk : ck_Go l F d M K a A tgt L st σ P) : ck_Go l F d M K a A pc L (.int x :: st) σ P := fun σ0 h0 h g1 g2 => gx_lk hM ha hi hp ho ht (kk σ0 h0 h g1 g2)
theorem ck_mx {i : gx_I} {idx : Nat} {x y : Int32} (hM : gx_ok M) (ha : gx_at M.2 pc = some i) (hi : i.1 = .invokestatic idx) (hx : i.2.2.2.2.2.2.1 = [3]) (hw : (st.map fun v => v.category).sum ≤ 8) (kk : ck_Go l F (d + 1) M K a A i.2.2.2.2.1 L (.int (if x < y then y else x) :: st) σ P) : ck_Go l F (d + 1) M K a A pc L (.int y :: .int x :: st) σ P := fun σ0 h0 h g1 g2 => gx_mx hM ha hi hx hw (kk σ0 h0 h g1 g2)
theorem ck_mn {i : gx_I} {idx : Nat} {x y : Int32} (hM : gx_ok M) (ha : gx_at M.2 pc = some i) (hi : i.1 = .invokestatic idx) (hx : i.2.2.2.2.2.2.1 = [4]) (hw : (st.map fun v => v.category).sum ≤ 8) (kk : ck_Go l F (d + 1) M K a A i.2.2.2.2.1 L (.int (if y < x then y else x) :: st) σ P) : ck_Go l F (d + 1) M K a A pc L (.int y :: .int x :: st) σ P := fun σ0 h0 h g1 g2 => gx_mn hM ha hi hx hw (kk σ0 h0 h g1 g2)
/-- its own field read -/
theorem ck_g {i : gx_I} {idx k nest tc : Nat} {v : Value} (hM : gx_ok M) (ha : gx_at M.2 pc = some i) (hi : i.1 = .getfield idx) (hx : i.2.2.2.2.2.2.1 = [K.1, k, nest, tc]) (hv : (K.2.1 A σ.1 σ.2.2.1)[k]? = some v) (kk : ck_Go l F d M K a A i.2.2.2.2.1 L (v :: st) σ P) : ck_Go l F d M K a A pc L (.ref a :: st) σ P := fun σ0 h0 h h1 h2 => gx_gf hM ha hi hx h1.2.2.1 hv (kk σ0 h0 h h1 h2)
theorem ck_pt {i : gx_I} {idx k nest tc : Nat} {x : Int32} (hM : gx_ok M) (ha : gx_at M.2 pc = some i) (hi : i.1 = .putfield idx) (hx : i.2.2.2.2.2.2.1 = [K.1, k, nest, tc]) (hf : gx_fit tc (.int x)) (hl : k < (K.2.1 A σ.1 σ.2.2.1).length) (hs : (K.2.1 A σ.1 σ.2.2.1).set k (.int x) = K.2.1 A (upd σ.1 k x) σ.2.2.1) (kk : ck_Go l F d M K a A i.2.2.2.2.1 L st (upd σ.1 k x, σ.2.1, σ.2.2.1, σ.2.2.2) P) : ck_Go l F d M K a A pc L (.int x :: .ref a :: st) σ P := by
  intro σ0 h0 h h1 h2
  refine gx_pf hM ha hi hx h1.2.2.1 hl hf ?_
  rw [hs]
  obtain ⟨g1, g2⟩ := ck_wO h1 h2 (ρ := upd σ.1 k x) (κ := σ.2.2.1)
  exact kk σ0 h0 _ g1 g2
def updR (f : Nat → Option Nat) (k : Nat) (x : Option Nat) : Nat → Option Nat := fun j => if j = k then x else f j
theorem ck_pr {i : gx_I} {idx k nest : Nat} {x : Option Nat} (hM : gx_ok M) (ha : gx_at M.2 pc = some i) (hi : i.1 = .putfield idx) (hx : i.2.2.2.2.2.2.1 = [K.1, k, nest, 2]) (hl : k < (K.2.1 A σ.1 σ.2.2.1).length) (hs : (K.2.1 A σ.1 σ.2.2.1).set k (va_rf x) = K.2.1 A σ.1 (updR σ.2.2.1 k x)) (kk : ck_Go l F d M K a A i.2.2.2.2.1 L st (σ.1, σ.2.1, updR σ.2.2.1 k x, σ.2.2.2) P) : ck_Go l F d M K a A pc L (va_rf x :: .ref a :: st) σ P := by
  intro σ0 h0 h h1 h2
  refine gx_pf hM ha hi hx h1.2.2.1 hl (by cases x <;> exact trivial) ?_
  rw [hs]
  obtain ⟨g1, g2⟩ := ck_wO h1 h2 (ρ := σ.1) (κ := updR σ.2.2.1 k x)
  exact kk σ0 h0 _ g1 g2
/-- its own arrays -/
theorem ck_ld {i : gx_I} {k : Nat} {x : Int32} (hM : gx_ok M) (ha : gx_at M.2 pc = some i) (hi : i.1 = .iaload) (ht : K.2.2.2 k = 0) (hin : vp_in x (K.2.2.1 k)) (hk : K.2.2.1 k ≠ 0) (kk : ck_Go l F d M K a A i.2.2.2.2.1 L (.int (σ.2.1 k x.toNatClampNeg) :: st) σ P) : ck_Go l F d M K a A pc L (.int x :: .ref (A k) :: st) σ P := fun σ0 h0 h h1 h2 => gx_il1 hM ha hi (by rw [ht]; rfl) (h1.2.2.2.1 k hk) hin (kk σ0 h0 h h1 h2)
theorem ck_lc {i : gx_I} {k : Nat} {x : Int32} (hM : gx_ok M) (ha : gx_at M.2 pc = some i) (hi : i.1 = .caload) (ht : K.2.2.2 k = 2) (hin : vp_in x (K.2.2.1 k)) (hk : K.2.2.1 k ≠ 0) (kk : ck_Go l F d M K a A i.2.2.2.2.1 L (.int (σ.2.1 k x.toNatClampNeg) :: st) σ P) : ck_Go l F d M K a A pc L (.int x :: .ref (A k) :: st) σ P := fun σ0 h0 h h1 h2 => gx_cl1 hM ha hi (by rw [ht]; rfl) (h1.2.2.2.1 k hk) hin (kk σ0 h0 h h1 h2)
theorem ck_sto {i : gx_I} {k : Nat} {x v : Int32} (hM : gx_ok M) (ha : gx_at M.2 pc = some i) (hi : i.1 = .iastore) (ht : K.2.2.2 k = 0) (hin : vp_in x (K.2.2.1 k)) (hk : K.2.2.1 k ≠ 0) (kk : ck_Go l F d M K a A i.2.2.2.2.1 L st (σ.1, gm_up σ.2.1 k (upd (σ.2.1 k) x.toNatClampNeg v), σ.2.2) P) : ck_Go l F d M K a A pc L (.int v :: .int x :: .ref (A k) :: st) σ P := by
  intro σ0 h0 h h1 h2
  obtain ⟨g1, g2⟩ := ck_wA h1 h2 hk (f := upd (σ.2.1 k) x.toNatClampNeg v)
  exact gx_is1 hM ha hi (by rw [ht]; rfl) (h1.2.2.2.1 k hk) hin (kk σ0 h0 _ g1 g2)
theorem ck_stc {i : gx_I} {k : Nat} {x v : Int32} (hM : gx_ok M) (ha : gx_at M.2 pc = some i) (hi : i.1 = .castore) (ht : K.2.2.2 k = 2) (hin : vp_in x (K.2.2.1 k)) (hk : K.2.2.1 k ≠ 0) (kk : ck_Go l F d M K a A i.2.2.2.2.1 L st (σ.1, gm_up σ.2.1 k (upd (σ.2.1 k) x.toNatClampNeg (vp_nar .char v)), σ.2.2) P) : ck_Go l F d M K a A pc L (.int v :: .int x :: .ref (A k) :: st) σ P := by
  intro σ0 h0 h h1 h2
  obtain ⟨g1, g2⟩ := ck_wA h1 h2 hk (f := upd (σ.2.1 k) x.toNatClampNeg (vp_nar .char v))
  exact gx_cs1 hM ha hi (by rw [ht]; rfl) (h1.2.2.2.1 k hk) hin (kk σ0 h0 _ g1 g2)
theorem ck_ln {i : gx_I} {k : Nat} {ty : FieldType} (hM : gx_ok M) (ha : gx_at M.2 pc = some i) (hi : i.1 = .arraylength) (ht : gx_TY[K.2.2.2 k]? = some ty) (hk : K.2.2.1 k ≠ 0) (kk : ck_Go l F d M K a A i.2.2.2.2.1 L (.int (nI (K.2.2.1 k)) :: st) σ P) : ck_Go l F d M K a A pc L (.ref (A k) :: st) σ P := fun σ0 h0 h h1 h2 => gx_ln hM ha hi ht (h1.2.2.2.1 k hk) (kk σ0 h0 h h1 h2)
/-- another cell's field -/
theorem ck_gE {i : gx_I} {idx ci k nest tc b : Nat} {v : Value} (hM : gx_ok M) (ha : gx_at M.2 pc = some i) (hi : i.1 = .getfield idx) (hx : i.2.2.2.2.2.2.1 = [ci, k, nest, tc]) (hg : eg σ.2.2.2.1 b ci k = some v) (kk : ck_Go l F d M K a A i.2.2.2.2.1 L (v :: st) σ P) : ck_Go l F d M K a A pc L (.ref b :: st) σ P := by
  intro σ0 h0 h h1 h2
  obtain ⟨fs, g1, g2⟩ := eg_of hg
  exact gx_gf hM ha hi hx (h1.2.2.2.2.2.1 b _ g1).1 g2 (kk σ0 h0 h h1 h2)
theorem ck_pE {i : gx_I} {idx ci k nest tc b : Nat} {v : Value} {E' : ck_E} (hM : gx_ok M) (ha : gx_at M.2 pc = some i) (hi : i.1 = .putfield idx) (hx : i.2.2.2.2.2.2.1 = [ci, k, nest, tc]) (hf : gx_fit tc v) (hg : ep σ.2.2.2.1 b ci k v = some E') (kk : ck_Go l F d M K a A i.2.2.2.2.1 L st (σ.1, σ.2.1, σ.2.2.1, E', σ.2.2.2.2) P) : ck_Go l F d M K a A pc L (v :: .ref b :: st) σ P := by
  intro σ0 h0 h h1 h2
  obtain ⟨fs, g1, g2, rfl⟩ := ep_of hg
  obtain ⟨w1, w2⟩ := ck_wE h1 h2 (c := .inr (ci, fs.set k v)) g1
  exact gx_pf hM ha hi hx (h1.2.2.2.2.2.1 b _ g1).1 g2 hf (kk σ0 h0 _ w1 w2)
theorem ck_nw {i : gx_I} {idx ci n : Nat} {ts : List Nat} (hM : gx_ok M) (ha : gx_at M.2 pc = some i) (hi : i.1 = .new idx) (hx : i.2.2.2.2.2.2.1 = [ci]) (hts9 : gx_kd[ci]? = some ts) (h9 : ts.all (fun t => Nat.blt t 9) = true) (hn9 : ts.length = n) (kk : ck_Go l F d M K a A i.2.2.2.2.1 L (.ref σ.2.2.2.2.1 :: st) (σ.1, σ.2.1, σ.2.2.1, eset σ.2.2.2.1 σ.2.2.2.2.1 (.inr (ci, gx_def ts)), σ.2.2.2.2.1 + 1, σ.2.2.2.2.2 + n) P) : ck_Go l F d M K a A pc L st σ P := by
  intro σ0 h0 h h1 h2
  refine gx_nw hM ha hi hx hts9 h9 hn9 ?_
  obtain ⟨w1, w2⟩ := ck_wN h1 h2 (n := n) (c := .inr (ci, gx_def ts))
  have h3 := kk σ0 h0 _ w1 w2
  rw [← h1.1] at h3
  exact h3
/-- calls -/
theorem ck_iv {i : gx_I} {idx : Nat} {As rest : List Value} {r : vw_C} (hM : gx_ok M) (ha : gx_at M.2 pc = some i) (hi : i.1 = .invokevirtual idx) (hy : i.2.2.2.2.2.2.2 = M'.1) (hn : As.length = M'.1.2.2.2.2) (hs : st = As.reverse ++ .ref a :: rest) (hcr : gx_cl[K.1]? = some r) (hcn : M'.1.1.cls = r.1) (hw : (rest.map fun v => v.category).sum ≤ 8)
    (hm : ck_Has l F d M' K a A (.ref a :: As) σ Pm) (kk : ∀ v σ', gx_nar M'.1.2.2.2.1 v → Pm v σ' → ck_Go l F (d + 1) M K a A i.2.2.2.2.1 L (v.toList ++ rest) σ' P) : ck_Go l F (d + 1) M K a A pc L st σ P := by
  intro σ0 h0 h h1 h2
  refine gx_iv hM ha hi hy hn hs h1.2.2.1 hcr hcn hw (hm h h1) fun v h' hv hp => ?_
  obtain ⟨σ', p1, p2, p3⟩ := hp
  exact kk v σ' hv p1 σ0 h0 h' p2 (h2.tr p3)
theorem ck_ivE {i : gx_I} {idx b ci : Nat} {fs As rest : List Value} {r : vw_C} (hM : gx_ok M) (ha : gx_at M.2 pc = some i) (hi : i.1 = .invokevirtual idx) (hy : i.2.2.2.2.2.2.2 = M'.1) (hn : As.length = M'.1.2.2.2.2) (hs : st = As.reverse ++ .ref b :: rest) (hb : σ.2.2.2.1 b = some (.inr (ci, fs))) (hcr : gx_cl[ci]? = some r) (hcn : M'.1.1.cls = r.1) (hw : (rest.map fun v => v.category).sum ≤ 8)
    (hm : ck_Has l F d M' K a A (.ref b :: As) σ Pm) (kk : ∀ v σ', gx_nar M'.1.2.2.2.1 v → Pm v σ' → ck_Go l F (d + 1) M K a A i.2.2.2.2.1 L (v.toList ++ rest) σ' P) : ck_Go l F (d + 1) M K a A pc L st σ P := by
  intro σ0 h0 h h1 h2
  refine gx_iv hM ha hi hy hn hs (h1.2.2.2.2.2.1 b _ hb).1 hcr hcn hw (hm h h1) fun v h' hv hp => ?_
  obtain ⟨σ', p1, p2, p3⟩ := hp
  exact kk v σ' hv p1 σ0 h0 h' p2 (h2.tr p3)
theorem ck_is {i : gx_I} {idx : Nat} {As rest : List Value} (hM : gx_ok M) (ha : gx_at M.2 pc = some i) (hi : i.1 = .invokestatic idx) (hx : i.2.2.2.2.2.2.1 = [2]) (hy : i.2.2.2.2.2.2.2 = M'.1) (hn : As.length = M'.1.2.2.2.2) (hs : st = As.reverse ++ rest) (hw : (rest.map fun v => v.category).sum ≤ 8)
    (hm : ck_Has l F d M' K a A As σ Pm) (kk : ∀ v σ', gx_nar M'.1.2.2.2.1 v → Pm v σ' → ck_Go l F (d + 1) M K a A i.2.2.2.2.1 L (v.toList ++ rest) σ' P) : ck_Go l F (d + 1) M K a A pc L st σ P := by
  intro σ0 h0 h h1 h2
  refine gx_is hM ha hi hx hy hn hs hw (hm h h1) fun v h' hv hp => ?_
  obtain ⟨σ', p1, p2, p3⟩ := hp
  exact kk v σ' hv p1 σ0 h0 h' p2 (h2.tr p3)
theorem ck_in {i : gx_I} {idx b : Nat} {As rest : List Value} (hM : gx_ok M) (ha : gx_at M.2 pc = some i) (hi : i.1 = .invokespecial idx) (hx : i.2.2.2.2.2.2.1 = [1]) (hy : i.2.2.2.2.2.2.2 = M'.1) (hn : As.length = M'.1.2.2.2.2) (hs : st = As.reverse ++ .ref b :: rest) (hw : (rest.map fun v => v.category).sum ≤ 8)
    (hm : ck_Has l F d M' K a A (.ref b :: As) σ Pm) (kk : ∀ σ', Pm none σ' → ck_Go l F (d + 1) M K a A i.2.2.2.2.1 L rest σ' P) : ck_Go l F (d + 1) M K a A pc L st σ P := by
  intro σ0 h0 h h1 h2
  refine gx_in hM ha hi hx hy hn hs hw (hm h h1) fun h' hp => ?_
  obtain ⟨σ', p1, p2, p3⟩ := hp
  exact kk σ' p1 σ0 h0 h' p2 (h2.tr p3)
theorem ck_oi {i : gx_I} {idx b : Nat} (hM : gx_ok M) (ha : gx_at M.2 pc = some i) (hi : i.1 = .invokespecial idx) (hx : i.2.2.2.2.2.2.1 = [0]) (hw : (st.map fun v => v.category).sum ≤ 8) (kk : ck_Go l F (d + 1) M K a A i.2.2.2.2.1 L st σ P) : ck_Go l F (d + 1) M K a A pc L (.ref b :: st) σ P := fun σ0 h0 h h1 h2 => gx_oi hM ha hi hx hw (kk σ0 h0 h h1 h2)
end CK2
