/-! The reference looks for entries and makes them. -/
section AXMN
/-- how near the entry t is -/
def mNe (A : MS) (r k l t : Nat) : Nat := bif Nat.beq ((mE A).getD t (0, 0)).1 k then mCom ((mE A).getD t (0, 0)).2 (mKey A r l) l l else 0
/-- of the first t entries the nearest, its place and one more, and how near -/
def mFnd (A : MS) (r k l : Nat) : Nat → Nat × Nat
  | 0 => (0, 1)
  | t + 1 => bif Nat.ble (mFnd A r k l t).2 (mNe A r k l t) then (t + 1, mNe A r k l t) else mFnd A r k l t
abbrev mFn (A : MS) (r k : Nat) : Nat × Nat := mFnd A r k (mS A 6 k) (mE A).length
theorem mFnd_ok (A : MS) (r k l : Nat) : ∀ t, (mFnd A r k l t).1 ≤ t ∧ 1 ≤ (mFnd A r k l t).2 ∧ (mFnd A r k l t).2 ≤ max l 1 := by
  intro t
  induction t with
  | zero => exact ⟨Nat.le_refl _, Nat.le_refl _, Nat.le_max_right _ _⟩
  | succ t ih =>
    obtain ⟨h1, h2, h3⟩ := ih
    have e : mFnd A r k l (t + 1) = bif Nat.ble (mFnd A r k l t).2 (mNe A r k l t) then (t + 1, mNe A r k l t) else mFnd A r k l t := rfl
    rw [e]
    cases q : Nat.ble (mFnd A r k l t).2 (mNe A r k l t) with
    | false => exact ⟨Nat.le_succ_of_le h1, h2, h3⟩
    | true =>
      have q1 := Nat.le_of_ble_eq_true q
      refine ⟨Nat.le_refl _, Nat.le_trans h2 q1, ?_⟩
      show mNe A r k l t ≤ _
      unfold mNe
      cases Nat.beq ((mE A).getD t (0, 0)).1 k
      · exact Nat.zero_le _
      · exact Nat.le_trans (mCom_le _ _ _ _) (Nat.le_max_left _ _)
/-- a job is taken: what it restores, which entry is used -/
def mRes (A : MS) (r k j : Nat) : MS := bif Nat.beq (mS A 6 k) 0 then A else ((mUp A 43 r k j ((bif Nat.beq (mFn A r k).1 0 then 0 else (mFn A r k).2) + 1)).1, mQ A, bif Nat.beq (mFn A r k).1 0 then mE A else mRot (mE A) ((mFn A r k).1 - 1))
def mHas (A : MS) (e : Nat × Nat) : Bool := (mE A).any fun x => Nat.beq x.1 e.1 && Nat.beq x.2 e.2
/-- a job has passed: the entry that is made -/
def mSto (A : MS) (r k : Nat) : MS := bif Nat.beq (mS A 6 k) 0 then A else bif mHas A (k, mKey A r (mS A 6 k)) then A else (A.1, mQ A, bif Nat.blt 10 ((mE A).length + 1) then (mE A ++ [(k, mKey A r (mS A 6 k))]).eraseIdx 0 else mE A ++ [(k, mKey A r (mS A 6 k))])
theorem i32_upd {a b c d s : Nat} (h : a + s * b = d + s * c) : nI a + nI s * (nI b - nI c) = nI d := by
  have e : ∀ n : Nat, nI n = Int32.ofInt n := fun n => Int32.ofInt_eq_ofNat.symm
  rw [e, e, e, e, e, ← Int32.ofInt_sub, ← Int32.ofInt_mul, ← Int32.ofInt_add]
  congr 1
  have h1 : (a : Int) + s * b = d + s * c := by exact_mod_cast h
  rw [Int.mul_sub]
  omega
theorem pl_parts {r k j : Nat} (hk : k < 8) (hj : j < 16) : pl r k j / 128 = r ∧ pl r k j % 128 / 16 = k ∧ pl r k j % 16 = j := by
  show (128 * r + 16 * k + j) / 128 = r ∧ (128 * r + 16 * k + j) % 128 / 16 = k ∧ (128 * r + 16 * k + j) % 16 = j
  omega
section
variable {e0 mo : Nat} {σ : SG} {m : Nat} {M : Nat → Nat} {A : MS} {r k j : Nat}
theorem mC_r (hI : mB A) (hT : mT A) (hr : r < mR A) {v : Int32} {its : Nat} (hv : v = nI its) : nI (mC A r k j) + 16 * ((v + 1) - (nI (mC A r k j) / 16 - nI (mC A r k j) / 16 / 8 * 8)) = nI (mC (mUp A 43 r k j (its + 1)) r k j) := by
  obtain ⟨b1, b2⟩ := mC_lt (k := k) (j := j) hI hT hr
  obtain ⟨p1, p2, p3⟩ := mC_parts (k := k) (j := j) hI hT hr
  subst hv
  rw [nI_1, show (16 : Int32) = nI 16 from rfl, pk_div (by omega) (by decide) (by decide), show (8 : Int32) = nI 8 from rfl, pk_rem (by omega) (by decide) (by decide), p2]
  refine i32_upd ?_
  unfold mC
  rw [show mJ (mUp A 43 r k j (its + 1)) 3 r k j = its + 1 from mUp_at A 43 r k j _, show mJ (mUp A 43 r k j (its + 1)) 0 r k j = mJ A 0 r k j from mUp_f A (by decide) r k j, show mJ (mUp A 43 r k j (its + 1)) 1 r k j = mJ A 1 r k j from mUp_f A (by decide) r k j, show mJ (mUp A 43 r k j (its + 1)) 2 r k j = mJ A 2 r k j from mUp_f A (by decide) r k j]
  omega
theorem rm_ent (h : ax_rm σ m M A) {x : Nat} (hx : x < (mE A).length) : sgI σ 20 x (M 21) = nI (mCe ((mE A).getD x (0, 0))) := h.2.2.2.2.2.2.2.2.2 x hx
theorem ct_146 (h : ax_rm σ m M A) (hI : mB A) (hT : mT A) (hE : mEB A) (hr : r < mR A) (hk : k < mN A) (hj : j < 16) (hG : mG A r) : ax_ok e0 mo 2 146 [aR m, aI (nI (pl r k j))] σ (fun w σ2 => w = aU ∧ ax_rm σ2 m M (mRes A r k j) ∧ ax_mf m M σ σ2) := by
  have hN := hI.1.1
  have hR := hI.1.2
  have hk8 : k < 8 := by omega
  have h63 := (hI.2.2.1 k).2.1
  have hpl : pl r k j < 2 ^ 30 := by
    show 128 * r + 16 * k + j < _
    omega
  obtain ⟨p1, p2, p3⟩ := pl_parts (r := r) hk8 hj
  obtain ⟨s1, s2, s3, s4⟩ := rm_st h (f := 6) (by decide) (by decide) hk8
  have s4 : sgI σ 20 k (M 6) = nI (mS A 6 k) := s4
  obtain ⟨g1, g2, g3, g4⟩ := rm_job h hI hr hk8 hj
  have hl10 := hE.1
  have hin := mInp_lt hI hr
  have ek : (nI (pl r k j) - nI (pl r k j) / 128 * 128) / 16 = nI k := by rw [show (128 : Int32) = nI 128 from rfl, pk_rem (by omega) (by decide) (by decide), show (16 : Int32) = nI 16 from rfl, pk_div (by omega) (by decide) (by decide), p2]
  have er : nI (pl r k j) / 128 = nI r := by rw [show (128 : Int32) = nI 128 from rfl, pk_div (by omega) (by decide) (by decide), p1]
  unfold mRes
  refine sg_146_0 (d := 1) ⟨by decide, by decide, ax_kd h.1.1, ?_⟩
  rw [ek, s1, s3, s4]
  refine ⟨s2, pk_eq (mS A 6 k) 0 (fun q => ?_) (fun q => ?_)⟩
  · rw [q]
    exact ⟨rfl, h, ax_mf.refl _ _ _⟩
  rw [nb_ne q]
  have fok := mFnd_ok A r k (mS A 6 k)
  have hrow : ∀ i, i < (mE A).length → sgR σ 7 21 m = M 21 ∧ ax_in σ 20 (M 21) (nI i) ∧ (nI i).toNatClampNeg = i := fun i hi => rm_e h (by omega)
  refine ax_down (N := (mE A).length) (fun t => ∀ v : AV, ax_wp e0 mo 2 146 (30, [aR m, aI (nI (pl r k j)), aI (nI k), aI (nI (mS A 6 k)), aI (nI (mFnd A r k (mS A 6 k) t).1 - 1), aI (nI (mFnd A r k (mS A 6 k) t).2), aI (nI t), v], []) σ _) ?_ (fun t ht ih => ?_) 0 (Nat.zero_le _) aU
  · intro v
    obtain ⟨f1, f2, f3⟩ := fok (mE A).length
    have hmax : max (mS A 6 k) 1 ≤ 3 := Nat.max_le.mpr ⟨h63, by decide⟩
    show ax_wp e0 mo 2 146 (30, [aR m, aI (nI (pl r k j)), aI (nI k), aI (nI (mS A 6 k)), aI (nI (mFn A r k).1 - 1), aI (nI (mFn A r k).2), aI (nI (mE A).length), v], []) σ _
    have f1 : (mFn A r k).1 ≤ (mE A).length := f1
    generalize mFn A r k = p at f1 f2 f3 ⊢
    refine sg_146_30 (d := 1) ⟨ax_kd h.1.1, ?_⟩
    rw [h.2.1.2.2.2]
    refine ⟨fun z => absurd z (nI_nlt (Nat.le_refl _) (by omega)), fun _ => ⟨fun z => ?_, fun z => ?_⟩⟩
    · have e0 := (nI_m1 (by omega)).mp z
      refine ⟨ax_kd h.1.1, ?_⟩
      rw [g1, g3, g4, mC_r hI hT hr (v := 0) (its := 0) rfl]
      refine ⟨g2, ax_kd h.1.1, g2, by decide, by decide, g2, fun _ => ?_, fun w => absurd z w⟩
      refine sg_146_176 (d := 1) ⟨rfl, ?_, (ax_mf.refl m M σ).row (mr_of (by decide) (by decide) (by decide) (by decide)) _ (Or.inl rfl)⟩
      rw [e0]
      exact rm_jup (f := 3) h hr hk8 hj hG (by decide)
    · have e0 : p.1 ≠ 0 := fun w => z ((nI_m1 (by omega)).mpr w)
      refine ⟨ax_kd h.1.1, ?_⟩
      rw [g1, g3, g4, mC_r hI hT hr (v := nI p.2) (its := p.2) rfl]
      refine ⟨g2, ax_kd h.1.1, g2, by decide, by decide, g2, fun w => absurd w z, fun _ => ?_⟩
      rw [nI_p1 e0]
      have h1 := rm_jup (f := 3) (v := p.2 + 1) h hr hk8 hj hG (by decide)
      refine ⟨ax_kd h.1.1, ax_use (ct_145 h1 (i := p.1 - 1) (by show _ < (mE A).length; omega) (by show (mE A).length ≤ 11; omega)) rfl fun w σ2 hw => ?_⟩
      obtain ⟨rfl, h2, f2⟩ := hw
      refine sg_146_176 (d := 1) ⟨rfl, ?_, ((ax_mf.refl m M σ).row (mr_of (by decide) (by decide) (by decide) (by decide)) _ (Or.inl rfl)).trans f2⟩
      rw [nb_ne e0]
      exact h2
  · intro v
    obtain ⟨f1, f2, f3⟩ := fok t
    obtain ⟨q1, q2, q3⟩ := hrow t ht
    obtain ⟨b1, b2, b3, b4, b5⟩ := mE_bd hE hI (mE_at ht)
    have ev := rm_ent h ht
    have hmax : max (mS A 6 k) 1 ≤ 3 := Nat.max_le.mpr ⟨h63, by decide⟩
    have e : mFnd A r k (mS A 6 k) (t + 1) = bif Nat.ble (mFnd A r k (mS A 6 k) t).2 (mNe A r k (mS A 6 k) t) then (t + 1, mNe A r k (mS A 6 k) t) else mFnd A r k (mS A 6 k) t := rfl
    have en : mNe A r k (mS A 6 k) t = bif Nat.beq ((mE A).getD t (0, 0)).1 k then mCom ((mE A).getD t (0, 0)).2 (mKey A r (mS A 6 k)) (mS A 6 k) (mS A 6 k) else 0 := rfl
    have hnl : mNe A r k (mS A 6 k) t ≤ mS A 6 k := by
      rw [en]
      cases Nat.beq ((mE A).getD t (0, 0)).1 k
      · exact Nat.zero_le _
      · exact mCom_le _ _ _ _
    rw [e] at ih
    generalize hp : mFnd A r k (mS A 6 k) t = p at f1 f2 f3 ih ⊢
    have goal : ∀ n, n = mNe A r k (mS A 6 k) t → ∀ w : AV, (Nat.ble p.2 n = true → ax_wp e0 mo 2 146 (30, [aR m, aI (nI (pl r k j)), aI (nI k), aI (nI (mS A 6 k)), aI (nI t), aI (nI n), aI (nI t + 1), w], []) σ _) ∧ (Nat.ble p.2 n = false → ax_wp e0 mo 2 146 (30, [aR m, aI (nI (pl r k j)), aI (nI k), aI (nI (mS A 6 k)), aI (nI p.1 - 1), aI (nI p.2), aI (nI t + 1), w], []) σ _) := fun n hn w => by
      subst hn
      rw [nI_1]
      refine ⟨fun z => ?_, fun z => ?_⟩
      · rw [z] at ih
        have := ih w
        rw [← nI_pred t]
        exact this
      · rw [z] at ih
        exact ih w
    refine sg_146_30 (d := 1) ⟨ax_kd h.1.1, ?_⟩
    rw [h.2.1.2.2.2, q1, q3, ev, show (10 : Int32) = nI 10 from rfl, pk_rem (by omega) (by decide) (by decide), b4]
    refine ⟨fun _ => ⟨ax_kd h.1.1, q2, by decide, pk_eq ((mE A).getD t (0, 0)).1 k (fun z => ?_) (fun z => ?_)⟩, fun z => absurd (nI_lt ht (by omega)) z⟩
    · refine ⟨ax_kd h.1.1, q2, by decide, by decide, ax_kd h.1.1, ?_⟩
      rw [er, pk_div (by omega) (by decide) (by decide), b5]
      refine ax_use0 (ct_143 h hI hr h63) rfl ?_
      refine sg_146_73 (d := 1) ?_
      have hkl : mKey A r (mS A 6 k) < 2 ^ 31 := Nat.lt_of_le_of_lt (Nat.div_le_self _ _) (by omega)
      refine ax_use0 (ct_144 (by omega) hkl h63) rfl ?_
      rw [z, Nat.beq_refl] at en
      have en : mNe A r k (mS A 6 k) t = mCom ((mE A).getD t (0, 0)).2 (mKey A r (mS A 6 k)) (mS A 6 k) (mS A 6 k) := en
      rw [← en]
      obtain ⟨G1, G2⟩ := goal _ rfl (aI (nI (mNe A r k (mS A 6 k) t)))
      refine sg_146_77 (d := 1) (pk_lt (mNe A r k (mS A 6 k) t) p.2 (fun z => ?_) (fun z => ?_))
      · exact ⟨fun _ => G2 (not_true_b fun w => absurd (Nat.le_of_ble_eq_true w) (by omega)), fun w => absurd (nI_lt z (by omega)) w⟩
      · exact ⟨fun w => absurd w (nI_nlt z (by omega)), fun _ => G1 (Nat.ble_eq_true_of_le z)⟩
    · rw [nb_ne z] at en
      have en : mNe A r k (mS A 6 k) t = 0 := en
      obtain ⟨G1, G2⟩ := goal _ en.symm (aI 0)
      have hpos : (0 : Int32) < nI p.2 := nI_lt (a := 0) (by omega) (by omega)
      exact ⟨fun _ => ⟨fun _ => G2 (not_true_b fun w => absurd (Nat.le_of_ble_eq_true w) (by omega)), fun w => absurd hpos w⟩, fun w => absurd hpos w⟩
theorem mHas_iff {e : Nat × Nat} : mHas A e = true ↔ ∃ i, i < (mE A).length ∧ (mE A).getD i (0, 0) = e := by
  unfold mHas
  rw [List.any_eq_true]
  constructor
  · rintro ⟨x, hx, h⟩
    obtain ⟨i, hi, rfl⟩ := List.mem_iff_getElem.mp hx
    rw [Bool.and_eq_true] at h
    refine ⟨i, hi, ?_⟩
    rw [List.getD_eq_getElem?_getD, List.getElem?_eq_getElem hi]
    exact Prod.ext (ax_beq h.1) (ax_beq h.2)
  · rintro ⟨i, hi, h⟩
    refine ⟨_, mE_at hi, ?_⟩
    rw [h, Nat.beq_refl, Nat.beq_refl]
    rfl
theorem ct_147 (h : ax_rm σ m M A) (hI : mB A) (hE : mEB A) (hr : r < mR A) (hk : k < mN A) (hj : j < 16) : ax_ok e0 mo 2 147 [aR m, aI (nI (pl r k j))] σ (fun w σ2 => w = aU ∧ ax_rm σ2 m M (mSto A r k) ∧ ax_mf m M σ σ2) := by
  have hN := hI.1.1
  have hR := hI.1.2
  have hk8 : k < 8 := by omega
  have h63 := (hI.2.2.1 k).2.1
  have hpl : pl r k j < 2 ^ 30 := by
    show 128 * r + 16 * k + j < _
    omega
  obtain ⟨p1, p2, p3⟩ := pl_parts (r := r) hk8 hj
  obtain ⟨s1, s2, s3, s4⟩ := rm_st h (f := 6) (by decide) (by decide) hk8
  have s4 : sgI σ 20 k (M 6) = nI (mS A 6 k) := s4
  have hl10 := hE.1
  have hin := mInp_lt hI hr
  have h21 : ax_mr 21 := mr_of (by decide) (by decide) (by decide) (by decide)
  have ek : (nI (pl r k j) - nI (pl r k j) / 128 * 128) / 16 = nI k := by rw [show (128 : Int32) = nI 128 from rfl, pk_rem (by omega) (by decide) (by decide), show (16 : Int32) = nI 16 from rfl, pk_div (by omega) (by decide) (by decide), p2]
  have er : nI (pl r k j) / 128 = nI r := by rw [show (128 : Int32) = nI 128 from rfl, pk_div (by omega) (by decide) (by decide), p1]
  unfold mSto
  refine sg_147_0 (d := 1) ⟨by decide, by decide, ax_kd h.1.1, ?_⟩
  rw [ek, s1, s3, s4]
  refine ⟨s2, pk_eq (mS A 6 k) 0 (fun q => ?_) (fun q => ?_)⟩
  · rw [q]
    exact ⟨rfl, h, ax_mf.refl _ _ _⟩
  rw [nb_ne q, er]
  refine ⟨by decide, ax_kd h.1.1, s2, ax_kd h.1.1, ?_⟩
  refine ax_use0 (ct_143 h hI hr h63) rfl ?_
  have hkl : mKey A r (mS A 6 k) < 1000000 := Nat.lt_of_le_of_lt (Nat.div_le_self _ _) hin
  refine sg_147_36 (d := 1) ?_
  generalize mKey A r (mS A 6 k) = key at hkl ⊢
  have ee : (10 : Int32) * nI key + nI k = nI (mCe (k, key)) := by rw [show (10 : Int32) = nI 10 from rfl, pk_mul, nI_add]
  rw [ee]
  have hce : mCe (k, key) < 2 ^ 30 := by
    show 10 * key + k < _
    omega
  refine ax_down (N := (mE A).length) (fun t => (∀ x, x < t → (mE A).getD x (0, 0) ≠ (k, key)) → ax_wp e0 mo 2 147 (43, [aR m, aI (nI (pl r k j)), aI (nI k), aI (nI (mCe (k, key))), aI (nI t)], []) σ _) ?_ (fun t ht ih => ?_) 0 (Nat.zero_le _) (fun x hx => absurd hx (Nat.not_lt_zero x))
  · intro hno
    have e1 : mHas A (k, key) = false := by
      cases z : mHas A (k, key) with
      | false => rfl
      | true =>
        obtain ⟨i, hi, w⟩ := mHas_iff.mp z
        exact absurd w (hno i hi)
    rw [e1]
    obtain ⟨g1, g2, g3⟩ := rm_e h (i := (mE A).length) (by omega)
    refine sg_147_43 (d := 1) ⟨ax_kd h.1.1, ?_⟩
    rw [h.2.1.2.2.2, g1, g3, nI_1, show sgI (putI (putI σ 20 (mE A).length (M 21) (nI (mCe (k, key)))) 7 22 m (nI ((mE A).length + 1))) 7 22 m = nI ((mE A).length + 1) from if_pos ⟨rfl, rfl, rfl⟩]
    have h1 : ax_rm (putI (putI σ 20 (mE A).length (M 21) (nI (mCe (k, key)))) 7 22 m (nI ((mE A).length + 1))) m M (A.1, A.2.1, mE A ++ [(k, key)]) := by
      refine rm_en h (((ax_but.refl σ m M 21 22).put).num) ?_ fun x hx => ?_
      · rw [gI_putI, if_pos ⟨rfl, rfl, rfl⟩, List.length_append]
        rfl
      · rw [gI_putI, if_neg (fun z => absurd z.1 (by decide)), gI_putI, List.getD_eq_getElem?_getD]
        rw [List.length_append] at hx
        have hx : x < (mE A).length + 1 := hx
        by_cases w : x = (mE A).length
        · rw [if_pos ⟨rfl, w, rfl⟩, w, List.getElem?_append_right (Nat.le_refl _), Nat.sub_self]
          rfl
        · rw [if_neg (fun z => w z.2.1), List.getElem?_append_left (by omega), ← List.getD_eq_getElem?_getD]
          exact rm_ent h (by omega)
    have f1 : ax_mf m M σ (putI (putI σ 20 (mE A).length (M 21) (nI (mCe (k, key)))) 7 22 m (nI ((mE A).length + 1))) := ((ax_mf.refl m M σ).row h21 _ (Or.inl rfl)).num _
    refine ⟨fun z => absurd z (nI_nlt (Nat.le_refl _) (by omega)), fun _ => ⟨ax_kd h.1.1, ax_kd h.1.1, g2, ax_kd h.1.1, ax_kd h.1.1, ax_kd h.1.1, pk_lt 10 ((mE A).length + 1) (fun z => ⟨ax_kd h.1.1, ?_⟩) (fun z => ?_)⟩⟩
    · have hlen : (mE A ++ [(k, key)]).length = (mE A).length + 1 := by rw [List.length_append]; rfl
      refine ax_use (ct_145 h1 (i := 0) (by show 0 < (mE A ++ [(k, key)]).length; omega) (by show (mE A ++ [(k, key)]).length ≤ 11; omega)) rfl fun w σ2 hw => ?_
      obtain ⟨rfl, h2, f2⟩ := hw
      have hr0 : 0 < (mE A ++ [(k, key)]).length := by omega
      have l2 : sgI σ2 7 22 m = nI ((mE A).length + 1) := by
        rw [h2.2.1.2.2.2]
        show nI (mRot (mE A ++ [(k, key)]) 0).length = _
        rw [mRot_len hr0, hlen]
      refine sg_147_104 (d := 1) ⟨ax_kd h2.1.1, ax_kd h2.1.1, rfl, ?_, (f1.trans f2).num _⟩
      rw [l2, nI_pred, Nat.blt_eq.mpr z]
      have he : ((mE A ++ [(k, key)]).eraseIdx 0).length = (mE A).length := by rw [List.length_eraseIdx_of_lt hr0, hlen]; rfl
      refine rm_en h2 (ax_but.refl σ2 m M 21 22).num ?_ fun x hx => ?_
      · rw [gI_putI, if_pos ⟨rfl, rfl, rfl⟩]
        show nI _ = nI ((mE A ++ [(k, key)]).eraseIdx 0).length
        rw [he]
      · have hx : x < ((mE A ++ [(k, key)]).eraseIdx 0).length := hx
        rw [gI_putI, if_neg (fun z => absurd z.1 (by decide))]
        have e2 := rm_ent h2 (x := x) (by show x < (mRot (mE A ++ [(k, key)]) 0).length; rw [mRot_len hr0]; omega)
        rw [e2]
        show nI (mCe ((mRot (mE A ++ [(k, key)]) 0).getD x (0, 0))) = nI (mCe (((mE A ++ [(k, key)]).eraseIdx 0).getD x (0, 0)))
        unfold mRot
        rw [List.getD_eq_getElem?_getD, List.getElem?_append_left hx, ← List.getD_eq_getElem?_getD]
    · rw [not_true_b (fun w => absurd (Nat.blt_eq.mp w) (by omega))]
      exact ⟨rfl, h1, f1⟩
  · intro hno
    obtain ⟨g1, g2, g3⟩ := rm_e h (i := t) (by omega)
    obtain ⟨b1, b2, b3, b4, b5⟩ := mE_bd hE hI (mE_at ht)
    refine sg_147_43 (d := 1) ⟨ax_kd h.1.1, ?_⟩
    rw [h.2.1.2.2.2, g1, g3, rm_ent h ht, nI_1]
    refine ⟨fun _ => ⟨ax_kd h.1.1, g2, pk_eq (mCe ((mE A).getD t (0, 0))) (mCe (k, key)) (fun z => ?_) (fun z => ih fun x hx => ?_)⟩, fun z => absurd (nI_lt ht (by omega)) z⟩
    · have e1 : (mE A).getD t (0, 0) = (k, key) := by
        have z : 10 * ((mE A).getD t (0, 0)).2 + ((mE A).getD t (0, 0)).1 = 10 * key + k := z
        exact Prod.ext (by show _ = k; omega) (by show _ = key; omega)
      rw [mHas_iff.mpr ⟨t, ht, e1⟩]
      exact ⟨rfl, h, ax_mf.refl _ _ _⟩
    · rcases Nat.lt_succ_iff_lt_or_eq.mp hx with w | w
      · exact hno x w
      · rw [w]
        intro e1
        exact z (by rw [e1])
end
end AXMN
