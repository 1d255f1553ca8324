/-! The reference's writing methods on jobs and the queue. -/
section AXMH
section
variable {e0 mo : Nat} {σ : SG} {m : Nat} {M : Nat → Nat} {A : MS} {r k j : Nat}
/-- the heap stays as it is but for what the reference may write -/
def rf_w (m : Nat) (M : Nat → Nat) (σ σ1 : SG) : Prop := ax_F (ax_mWr m M) σ σ1 ∧ sgZ σ1 = sgZ σ ∧ sgU σ1 = sgU σ ∧ sgK σ1 = sgK σ ∧ sgR σ1 = sgR σ
theorem rf_w.refl (m : Nat) (M : Nat → Nat) (σ : SG) : rf_w m M σ σ := ⟨ax_F.refl _ _, rfl, rfl, rfl, rfl⟩
theorem rf_w.trans {σ σ1 σ2 : SG} (h1 : rf_w m M σ σ1) (h2 : rf_w m M σ1 σ2) : rf_w m M σ σ2 := ⟨h1.1.trans h2.1, h2.2.1.trans h1.2.1, h2.2.2.1.trans h1.2.2.1, h2.2.2.2.1.trans h1.2.2.2.1, h2.2.2.2.2.trans h1.2.2.2.2⟩
theorem rf_w.num {σ σ1 : SG} (h : rf_w m M σ σ1) {i : Nat} (v : Int32) : rf_w m M σ (putI σ1 7 i m v) := ⟨h.1.putI fun _ => Or.inl ⟨rfl, rfl⟩, h.2⟩
/-- and what was thrown last stands -/
def ax_mf (m : Nat) (M : Nat → Nat) (σ σ1 : SG) : Prop := rf_w m M σ σ1 ∧ sgI σ1 7 23 m = sgI σ 7 23 m
theorem ax_mf.refl (m : Nat) (M : Nat → Nat) (σ : SG) : ax_mf m M σ σ := ⟨rf_w.refl m M σ, rfl⟩
theorem ax_mf.trans {σ σ1 σ2 : SG} (h1 : ax_mf m M σ σ1) (h2 : ax_mf m M σ1 σ2) : ax_mf m M σ σ2 := ⟨h1.1.trans h2.1, h2.2.trans h1.2⟩
theorem ax_mf.row {σ σ1 : SG} (h : ax_mf m M σ σ1) {a i : Nat} (ha : ax_mr a) (v : Int32) {q : Nat} (hq : q = 20 ∨ q = 21) : ax_mf m M σ (putI σ1 q i (M a) v) := ⟨⟨h.1.1.putI fun _ => Or.inr ⟨by omega, a, ha, rfl⟩, h.1.2⟩, (show sgI (putI σ1 q i (M a) v) 7 23 m = sgI σ1 7 23 m from if_neg fun z => by omega).trans h.2⟩
theorem ax_mf.rowJ {σ σ1 : SG} (h : ax_mf m M σ σ1) {a i : Nat} (ha : ax_mr a) (v : Int64) : ax_mf m M σ (putJ σ1 22 i (M a) v) := ⟨⟨h.1.1.putJ fun _ => Or.inr ⟨by omega, a, ha, rfl⟩, h.1.2⟩, h.2⟩
theorem ax_mf.num {σ σ1 : SG} (h : ax_mf m M σ σ1) {i : Nat} (v : Int32) (hi : i ≠ 23 := by decide) : ax_mf m M σ (putI σ1 7 i m v) := ⟨⟨h.1.1.putI fun _ => Or.inl ⟨rfl, rfl⟩, h.1.2⟩, (show sgI (putI σ1 7 i m v) 7 23 m = sgI σ1 7 23 m from if_neg fun z => hi z.2.1.symm).trans h.2⟩
theorem i32_acs (a b s : Int32) : (a + b) + (s - b) = a + s := by
  have e : (a + b) + (s - b) = (a + s + b) - b := by
    rw [Int32.sub_eq_add_neg, Int32.sub_eq_add_neg]
    ac_rfl
  rw [e, Int32.add_sub_cancel]
theorem mC_up0 (A : MS) (r k j s : Nat) : mC (mUp A 40 r k j s) r k j + mJ A 0 r k j = mC A r k j + s := by
  unfold mC
  rw [show mJ (mUp A 40 r k j s) 0 r k j = s from mUp_at A 40 r k j s, show mJ (mUp A 40 r k j s) 1 r k j = mJ A 1 r k j from mUp_f A (by decide) r k j, show mJ (mUp A 40 r k j s) 2 r k j = mJ A 2 r k j from mUp_f A (by decide) r k j, show mJ (mUp A 40 r k j s) 3 r k j = mJ A 3 r k j from mUp_f A (by decide) r k j]
  omega
/-- becomes -/
theorem ct_105 (h : ax_rm σ m M A) (hI : mB A) (hT : mT A) (hr : r < mR A) (hk : k < 8) (hj : j < 16) (hG : mG A r) {s : Nat} : ax_ok e0 mo 0 105 [aR m, aI (nI (pl r k j)), aI (nI s)] σ (fun w σ2 => w = aU ∧ ax_rm σ2 m M (mUp A 40 r k j s) ∧ ax_mf m M σ σ2) := by
  obtain ⟨g1, g2, g3, g4⟩ := rm_job h hI hr hk hj
  obtain ⟨b1, b2⟩ := mC_lt (k := k) (j := j) hI hT hr
  refine sg_105_0 ⟨ax_kd h.1.1, ?_⟩
  rw [g1, g3, g4, show (16 : Int32) = nI 16 from rfl, pk_rem (by omega) (by decide) (by decide), b2]
  have e : nI (mC A r k j) + (nI s - nI (mJ A 0 r k j)) = nI (mC (mUp A 40 r k j s) r k j) := by
    have e1 : mC A r k j = (mC A r k j - mJ A 0 r k j) + mJ A 0 r k j := by omega
    have e2 := mC_up0 A r k j s
    rw [e1, ← nI_add, i32_acs, nI_add]
    congr 1
    omega
  rw [e]
  exact ⟨g2, ax_kd h.1.1, g2, by decide, g2, rfl, rm_jup (f := 0) h hr hk hj hG (by decide), (ax_mf.refl m M σ).row (mr_of (by decide) (by decide) (by decide) (by decide)) _ (Or.inl rfl)⟩
theorem rm_q (h : ax_rm σ m M A) {i : Nat} (hi : i < 800) : sgR σ 7 18 m = M 18 ∧ ax_in σ 20 (M 18) (nI i) ∧ (nI i).toNatClampNeg = i := by
  obtain ⟨g1, g2⟩ := rm_row h (i := 18) (mr_of (by decide) (by decide) (by decide) (by decide))
  exact ⟨g1, ax_in_nI (n := 800) g2 hi (by decide), nI_clamp (by omega)⟩
/-- joins -/
theorem ct_112 (h : ax_rm σ m M A) (hI : mB A) (hT : mT A) (hr : r < mR A) (hk : k < 8) (hj : j < 16) (hG : mG A r) (hq : (mQ A).length < 800) : ax_ok e0 mo 1 112 [aR m, aI (nI (pl r k j))] σ (fun w σ2 => w = aU ∧ ax_rm σ2 m M ((mUp A 40 r k j 1).1, mQ A ++ [pl r k j], mE A) ∧ ax_mf m M σ σ2) := by
  refine sg_112_0 (d := 0) ⟨ax_kd h.1.1, ?_⟩
  refine ax_use (ct_105 (s := 1) h hI hT hr hk hj hG) rfl fun w σ1 hw => ?_
  obtain ⟨rfl, h1, f1⟩ := hw
  obtain ⟨g1, g2, g3⟩ := rm_q h1 hq
  have hl : sgI σ1 7 19 m = nI (mQ A).length := h1.2.1.2.2.1
  refine sg_112_6 (d := 0) ⟨ax_kd h1.1.1, ax_kd h1.1.1, ?_⟩
  rw [g1, hl, g3, nI_1]
  refine ⟨g2, ax_kd h1.1.1, ax_kd h1.1.1, rfl, ?_, (f1.row (mr_of (by decide) (by decide) (by decide) (by decide)) _ (Or.inl rfl)).num _⟩
  have hm18 : M 18 ≠ M 18 ∨ True := Or.inr trivial
  refine rm_qu (A := mUp A 40 r k j 1) h1 (((ax_but.refl σ1 m M 18 19).put).num) ?_ fun i hi => ?_
  · rw [gI_putI, if_pos ⟨rfl, rfl, rfl⟩, List.length_append]
    rfl
  · rw [gI_putI, if_neg (fun z => absurd z.1 (by decide)), gI_putI]
    rw [List.length_append] at hi
    have hi : i < (mQ A).length + 1 := hi
    by_cases q : i = (mQ A).length
    · rw [if_pos ⟨rfl, q, rfl⟩, q, List.getD_eq_getElem?_getD, List.getElem?_append_right (Nat.le_refl _), Nat.sub_self]
      rfl
    · rw [if_neg (fun z => q z.2.1), List.getD_eq_getElem?_getD, List.getElem?_append_left (by omega), ← List.getD_eq_getElem?_getD]
      exact h1.2.2.2.2.2.2.2.1 i (by show i < (mQ A).length; omega)
theorem filt_take {p : Nat} {q : List Nat} {i : Nat} (hi : i < q.length) : (q.take (i + 1)).filter (fun x => !(Nat.beq x p)) = (q.take i).filter (fun x => !(Nat.beq x p)) ++ (if q.getD i 0 = p then [] else [q.getD i 0]) := by
  have e : q.getD i 0 = q[i] := by rw [List.getD_eq_getElem?_getD, List.getElem?_eq_getElem hi]; rfl
  rw [List.take_add_one, List.getElem?_eq_getElem hi, List.filter_append, e]
  congr 1
  by_cases z : q[i] = p
  · rw [if_pos z]
    simp [z, Nat.beq_refl]
  · rw [if_neg z]
    simp [nb_ne z]
theorem filt_le {p : Nat} {q : List Nat} (i : Nat) : ((q.take i).filter (fun x => !(Nat.beq x p))).length ≤ i := Nat.le_trans (List.length_filter_le _ _) (by rw [List.length_take]; omega)
theorem getD_snoc (F : List Nat) (y : Nat) : (F ++ [y]).getD F.length 0 = y := by
  rw [List.getD_eq_getElem?_getD, List.getElem?_append_right (Nat.le_refl _), Nat.sub_self]
  rfl
theorem getD_app {F : List Nat} {y x : Nat} (h : x < F.length) : (F ++ [y]).getD x 0 = F.getD x 0 := by
  rw [List.getD_eq_getElem?_getD, List.getElem?_append_left h, ← List.getD_eq_getElem?_getD]
/-- leaves -/
theorem ct_113 (h : ax_rm σ m M A) {p : Nat} (hp : p < 2 ^ 31) (hq : (mQ A).length ≤ 800) (hql : ∀ x ∈ mQ A, x < 2 ^ 31) : ax_ok e0 mo 0 113 [aR m, aI (nI p)] σ (fun w σ2 => w = aU ∧ ax_rm σ2 m M (A.1, (mQ A).filter (fun x => !(Nat.beq x p)), A.2.2) ∧ ax_mf m M σ σ2) := by
  have h18 : ax_mr 18 := mr_of (by decide) (by decide) (by decide) (by decide)
  refine sg_113_0 ?_
  refine ax_down (N := (mQ A).length) (fun i => ∀ σ1, ax_but σ σ1 m M 18 19 → ax_mf m M σ σ1 → sgI σ1 7 19 m = nI (mQ A).length → (∀ x, x < (((mQ A).take i).filter (fun x => !(Nat.beq x p))).length → sgI σ1 20 x (M 18) = nI ((((mQ A).take i).filter (fun x => !(Nat.beq x p))).getD x 0)) → (∀ x, i ≤ x → x < (mQ A).length → sgI σ1 20 x (M 18) = nI ((mQ A).getD x 0)) → ax_wp e0 mo 0 113 (4, [aR m, aI (nI p), aI (nI (((mQ A).take i).filter (fun x => !(Nat.beq x p))).length), aI (nI i)], []) σ1 _) ?_ (fun i hi ih => ?_) 0 (Nat.zero_le _) σ (ax_but.refl _ _ _ _ _) (ax_mf.refl _ _ _) h.2.1.2.2.1 (fun x hx => absurd hx (Nat.not_lt_zero x)) (fun x _ hx => h.2.2.2.2.2.2.2.1 x hx)
  · intro σ1 b1 f1 l1 c1 c2
    have s1 := b1.shape h.1
    refine sg_113_4 ⟨ax_kd s1.1, ?_⟩
    rw [l1]
    refine ⟨fun z => absurd z (nI_nlt (Nat.le_refl _) (by omega)), fun _ => ⟨ax_kd s1.1, rfl, ?_, f1.num _⟩⟩
    rw [List.take_length] at c1 ⊢
    refine rm_qu h b1.num (if_pos ⟨rfl, rfl, rfl⟩) fun i hi => ?_
    rw [gI_putI, if_neg (fun z => absurd z.1 (by decide))]
    exact c1 i hi
  · intro σ1 b1 f1 l1 c1 c2
    have s1 := b1.shape h.1
    obtain ⟨g1, g2⟩ := s1.2.1 18 h18
    have hle := filt_le (p := p) (q := mQ A) i
    have hx : (mQ A).getD i 0 < 2 ^ 31 := by
      rw [List.getD_eq_getElem?_getD, List.getElem?_eq_getElem hi]
      exact hql _ (List.getElem_mem hi)
    have i1 : ax_in σ1 20 (M 18) (nI i) := ax_in_nI (n := 800) g2 (by omega) (by decide)
    have i2 : ax_in σ1 20 (M 18) (nI (((mQ A).take i).filter (fun x => !(Nat.beq x p))).length) := ax_in_nI (n := 800) g2 (by omega) (by decide)
    have k1 : (nI i).toNatClampNeg = i := nI_clamp (by omega)
    have k2 : (nI (((mQ A).take i).filter (fun x => !(Nat.beq x p))).length).toNatClampNeg = (((mQ A).take i).filter (fun x => !(Nat.beq x p))).length := nI_clamp (by omega)
    refine sg_113_4 ⟨ax_kd s1.1, ?_⟩
    rw [l1, g1, k1, k2, c2 i (Nat.le_refl _) hi, nI_1, nI_1]
    have hv : sgI (putI σ1 20 (((mQ A).take i).filter (fun x => !(Nat.beq x p))).length (M 18) (nI ((mQ A).getD i 0))) 20 i (M 18) = nI ((mQ A).getD i 0) := by
      rw [gI_putI]
      split
      · rfl
      · exact c2 i (Nat.le_refl _) hi
    rw [hv]
    have b2 := b1.put (i := (((mQ A).take i).filter (fun x => !(Nat.beq x p))).length) (v := nI ((mQ A).getD i 0))
    have f2 := f1.row (i := (((mQ A).take i).filter (fun x => !(Nat.beq x p))).length) h18 (nI ((mQ A).getD i 0)) (Or.inl rfl)
    have l2 : sgI (putI σ1 20 (((mQ A).take i).filter (fun x => !(Nat.beq x p))).length (M 18) (nI ((mQ A).getD i 0))) 7 19 m = nI (mQ A).length := by
      rw [gI_putI, if_neg (fun z => absurd z.1 (by decide))]; exact l1
    have c4 : ∀ x, i + 1 ≤ x → x < (mQ A).length → sgI (putI σ1 20 (((mQ A).take i).filter (fun x => !(Nat.beq x p))).length (M 18) (nI ((mQ A).getD i 0))) 20 x (M 18) = nI ((mQ A).getD x 0) := fun x a b => by
      rw [gI_putI, if_neg (fun z => by omega)]
      exact c2 x (by omega) b
    have ih2 := ih _ b2 f2 l2
    rw [filt_take hi] at ih2
    refine ⟨fun _ => ⟨ax_kd s1.1, ax_kd s1.1, i1, i2, ax_kd s1.1, i1, fun z => ?_, fun z => ?_⟩, fun z => absurd (nI_lt hi (by omega)) z⟩
    · have e := (nI_eq hx hp).mp z
      rw [if_pos e, List.append_nil] at ih2
      rw [show nI (((mQ A).take i).filter (fun x => !(Nat.beq x p))).length + 0 = nI (((mQ A).take i).filter (fun x => !(Nat.beq x p))).length from nI_add _ 0]
      exact ih2 (fun x a => by rw [gI_putI, if_neg (fun z => by omega)]; exact c1 x a) c4
    · have e : (mQ A).getD i 0 ≠ p := fun w => z (by rw [w])
      rw [if_neg e, List.length_append] at ih2
      refine ih2 (fun x a => ?_) c4
      rw [gI_putI]
      have a : x < (((mQ A).take i).filter (fun x => !(Nat.beq x p))).length + 1 := a
      by_cases w : x = (((mQ A).take i).filter (fun x => !(Nat.beq x p))).length
      · rw [if_pos ⟨rfl, w, rfl⟩, w, getD_snoc]
      · rw [if_neg (fun z => w z.2.1), getD_app (by omega)]
        exact c1 x (by omega)
end
end AXMH
