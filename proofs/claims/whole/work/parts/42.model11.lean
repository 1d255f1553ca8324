/-! The reference: a run's end, its stages' beginnings, what follows. -/
section AXMP
theorem mWellN_cong {A A' : MS} {r k : Nat} (h : ∀ j, mJ A' 0 r k j = mJ A 0 r k j) (h8 : mS A' 8 k = mS A 8 k) : mWellN A' r k = mWellN A r k := by
  unfold mWellN
  congr 1
  funext j
  rw [h, h8]
section
variable {e0 mo : Nat} {σ σ1 : SG} {m : Nat} {M : Nat → Nat} {A : MS} {r k j : Nat}
/-- σ1 is σ but for the run r's state and what ended well of it -/
theorem rm_11 (h : ax_rm σ m M A) {A1 : MS} (hA : ∀ f r' k j, f ≠ 11 → f ≠ 60 → A1.1 f r' k j = A.1 f r' k j) (hA11 : ∀ r', r' ≠ r → mU A1 11 r' = mU A 11 r') (hA2 : A1.2 = A.2) (hK : sgK σ1 = sgK σ) (hJ : sgJ σ1 = sgJ σ) (hR : sgR σ1 = sgR σ) (hO : ∀ k i q, ¬ (k = 20 ∧ i = r ∧ q = M 11) → ¬ (k = 20 ∧ i = r ∧ q = M 16) → sgI σ1 k i q = sgI σ k i q) (e1 : sgI σ1 20 r (M 11) = nI (mU A1 11 r)) (e2 : ∀ r', r' < mR A → ¬ mG A1 r' → r' + 1 ≠ A1.1 60 0 0 0 → sgI σ1 20 r' (M 16) = nI (mGoods A r' (mU A 16 r'))) : ax_rm σ1 m M A1 := by
  obtain ⟨h0, ⟨c1, c2, c3, c4⟩, h2, h3, h4, h5, h6, h7, h8, h9⟩ := h
  have a11 : ax_mr 11 := mr_of (by decide) (by decide) (by decide) (by decide)
  have a16 : ax_mr 16 := mr_of (by decide) (by decide) (by decide) (by decide)
  have ap : ∀ i, ax_mr i → i ≠ 11 → i ≠ 16 → ∀ k x, sgI σ1 k x (M i) = sgI σ k x (M i) := fun i hi n1 n2 k x => hO _ _ _ (fun z => rm_apart h0 hi a11 n1 z.2.2) (fun z => rm_apart h0 hi a16 n2 z.2.2)
  have s0 : ax_rmS σ1 m M := ⟨by rw [hK]; exact h0.1, fun i hi => by rw [hR, hK]; exact h0.2.1 i hi, h0.2.2⟩
  have num : ∀ i, sgI σ1 7 i m = sgI σ 7 i m := fun i => hO _ _ _ (fun z => absurd z.1 (by decide)) (fun z => absurd z.1 (by decide))
  have eN : mN A1 = mN A := hA 0 0 0 0 (by decide) (by decide)
  have eR : mR A1 = mR A := hA 10 0 0 0 (by decide) (by decide)
  have eQ : mQ A1 = mQ A := congrArg Prod.fst hA2
  have eE : mE A1 = mE A := congrArg Prod.snd hA2
  have eU : ∀ f r', f ≠ 11 → f ≠ 60 → mU A1 f r' = mU A f r' := fun f r' a b => hA f r' 0 0 a b
  refine ⟨s0, ⟨by rw [num, eN]; exact c1, by rw [num, eR]; exact c2, by rw [num, eQ]; exact c3, by rw [num, eE]; exact c4⟩, fun f k p1 p2 p3 => ?_, fun r' hr' => ?_, fun r' hr' => ?_, fun r' hr' hg hx => ?_, fun r' k j hr' hk hj => ?_, fun i hi => ?_, fun w hw => ?_, fun i hi => ?_⟩
  · rw [ap f (mr_of (by omega) (by omega) (by omega) (by omega)) (by omega) (by omega), show mS A1 f k = mS A f k from hA f k 0 0 (by omega) (by omega)]
    exact h2 f k p1 p2 p3
  · rw [eR] at hr'
    obtain ⟨d1, d2, d3, d4⟩ := h3 r' hr'
    refine ⟨?_, ?_, ?_, ?_⟩
    · by_cases q : r' = r
      · rw [q]; exact e1
      · rw [hO _ _ _ (fun z => q z.2.1) (fun z => q z.2.1), hA11 r' q]; exact d1
    · rw [ap 12 (mr_of (by decide) (by decide) (by decide) (by decide)) (by decide) (by decide), eU 12 r' (by decide) (by decide)]; exact d2
    · rw [ap 13 (mr_of (by decide) (by decide) (by decide) (by decide)) (by decide) (by decide)]
      unfold mInp at d3 ⊢
      rw [eU 13 r' (by decide) (by decide), eU 14 r' (by decide) (by decide), eU 15 r' (by decide) (by decide)]; exact d3
    · rw [ap 14 (mr_of (by decide) (by decide) (by decide) (by decide)) (by decide) (by decide), eU 16 r' (by decide) (by decide)]; exact d4
  · rw [eR] at hr'
    rw [hJ, eU 16 r' (by decide) (by decide), mNeeds_cong (A := A) (fun k => hA 24 r' k 0 (by decide) (by decide))]
    exact h4 r' hr'
  · rw [eR] at hr'
    rw [eU 16 r' (by decide) (by decide), mGoods_cong (A := A) (fun k j => hA 40 r' k j (by decide) (by decide)) (fun k => hA 28 r' k 0 (by decide) (by decide))]
    exact e2 r' hr' hg hx
  · rw [eR] at hr'
    rw [ap 17 (mr_of (by decide) (by decide) (by decide) (by decide)) (by decide) (by decide)]
    have e := h6 r' k j hr' hk hj
    unfold mC at e ⊢
    rw [show mJ A1 0 r' k j = mJ A 0 r' k j from hA 40 r' k j (by decide) (by decide), show mJ A1 1 r' k j = mJ A 1 r' k j from hA 41 r' k j (by decide) (by decide), show mJ A1 2 r' k j = mJ A 2 r' k j from hA 42 r' k j (by decide) (by decide), show mJ A1 3 r' k j = mJ A 3 r' k j from hA 43 r' k j (by decide) (by decide)]
    exact e
  · rw [eQ] at hi
    rw [ap 18 (mr_of (by decide) (by decide) (by decide) (by decide)) (by decide) (by decide), eQ]
    exact h7 i hi
  · rw [ap 20 (mr_of (by decide) (by decide) (by decide) (by decide)) (by decide) (by decide), show mW A1 w = mW A w from hA 50 w 0 0 (by decide) (by decide)]
    exact h8 w hw
  · rw [eE] at hi
    rw [ap 21 (mr_of (by decide) (by decide) (by decide) (by decide)) (by decide) (by decide), eE]
    exact h9 i hi
/-- a run ends -/
abbrev mEnd (A : MS) (r s : Nat) : MS := mUp A 11 r 0 0 s
theorem mB_end (h : mB A) {s : Nat} (hs : s = 7 ∨ s = 8 ∨ s = 9 ∨ s = 10 ∨ s = 5) (x : Nat) : mB (mUp (mEnd A r s) 60 0 0 0 x) := by
  refine mB_cong (fun f r' k' j' a b => (mUp_f _ (by omega) r' k' j').trans (mUp_f A b r' k' j')) (fun r' hr' => ?_) (fun r' k' j' hr' => h.2.2.2.2.2 r' k' j' hr') h
  rw [show mU (mUp (mEnd A r s) 60 0 0 0 x) 11 r' = mU (mEnd A r s) 11 r' from mUp_f _ (by decide) r' 0 0]
  by_cases q : r' = r
  · rw [q, show mU (mEnd A r s) 11 r = s from mUp_at A 11 r 0 0 s]; exact hs
  · rw [show mU (mEnd A r s) 11 r' = mU A 11 r' from mUp_ne A (fun z => q z.1)]
    exact (h.2.2.2.2.1 r' hr').1
theorem one_shl : ∀ t, t < 8 → (1 : Int32) <<< (nI t &&& 31) = nI (2 ^ t) := by decide +kernel
theorem or_top {x t : Nat} (hx : x < 2 ^ t) : x ||| 2 ^ t = x + 2 ^ t := by
  have h := Nat.two_pow_add_eq_or_of_lt hx 1
  rw [Nat.mul_one] at h
  rw [Nat.or_comm, ← h, Nat.add_comm]
theorem ct_114 (h : ax_rm σ m M A) (hI : mB A) (hT : mT A) (hN : mNow A) (h60 : A.1 60 0 0 0 = 0) (hr : r < mR A) (hG : mG A r) {s : Nat} (hs : s = 5 ∨ s = 9 ∨ s = 10) : ax_ok e0 mo 4 114 [aR m, aI (nI r), aI (nI s)] σ (fun w σ2 => w = aU ∧ ax_rm σ2 m M (mEnd A r s) ∧ ax_mf m M σ σ2) := by
  have hR := hI.1.2
  have h16 := (hI.2.2.2.2.1 r hr).2.2.2.2.2.2
  have hNN := hI.1.1
  have a11 : ax_mr 11 := mr_of (by decide) (by decide) (by decide) (by decide)
  have a16 : ax_mr 16 := mr_of (by decide) (by decide) (by decide) (by decide)
  have n11 : M 16 ≠ M 11 := rm_apart h.1 a16 a11 (by decide)
  obtain ⟨g1, g2, g3⟩ := rm_run h hI (f := 11) (by decide) (show r < 80 by omega)
  obtain ⟨k1, k2, k3⟩ := rm_run h hI (f := 16) (by decide) (show r < 80 by omega)
  have hBB : mB (mUp (mEnd A r s) 60 0 0 0 (r + 1)) := mB_end hI (by omega) _
  have hTT : mT (mUp (mEnd A r s) 60 0 0 0 (r + 1)) := hT
  refine sg_114_0 (d := 3) ⟨ax_kd h.1.1, ?_⟩
  rw [g1, g3]
  refine ⟨g2, ax_kd h.1.1, ?_⟩
  have k1' : sgR (putI σ 20 r (M 11) (nI s)) 7 16 m = M 16 := k1
  have hw : ∀ t, t ≤ mU A 16 r → mWellN (mUp (mEnd A r s) 60 0 0 0 (r + 1)) r t = mWellN A r t := fun t _ => mWellN_cong (fun j => rfl) rfl
  rw [k1]
  refine ⟨k2, ?_⟩
  have st : ax_rm (putI (putI σ 20 r (M 11) (nI s)) 20 r (M 16) 0) m M (mUp (mEnd A r s) 60 0 0 0 (r + 1)) := by
    refine rm_11 (r := r) h (fun f r' k' j' a b => (mUp_f _ b r' k' j').trans (mUp_f A a r' k' j')) (fun r' q => (mUp_f _ (by decide) r' 0 0).trans (mUp_ne A (fun z => q z.1))) rfl rfl rfl rfl (fun k i q n1 n2 => ?_) ?_ (fun r' hr' hg hx => ?_)
    · rw [gI_putI, if_neg n2, gI_putI, if_neg n1]
    · rw [gI_putI, if_neg (fun z => n11 z.2.2.symm), gI_putI, if_pos ⟨rfl, rfl, rfl⟩, show mU (mUp (mEnd A r s) 60 0 0 0 (r + 1)) 11 r = s from (mUp_f _ (by decide) r 0 0).trans (mUp_at A 11 r 0 0 s)]
    · have hx : r' + 1 ≠ r + 1 := hx
      have hne : r' ≠ r := fun z => hx (by rw [z])
      rw [gI_putI, if_neg (fun z => hne z.2.1), gI_putI, if_neg (fun z => hne z.2.1)]
      refine h.2.2.2.2.2.1 r' hr' (fun z => hg ?_) (by omega)
      unfold mG at z ⊢
      rw [show mU (mUp (mEnd A r s) 60 0 0 0 (r + 1)) 11 r' = mU A 11 r' from (mUp_f _ (by decide) r' 0 0).trans (mUp_ne A (fun z => hne z.1))]
      exact z
  have hf0 : ax_mf m M σ (putI (putI σ 20 r (M 11) (nI s)) 20 r (M 16) 0) := ((ax_mf.refl m M σ).row a11 _ (Or.inl rfl)).row a16 _ (Or.inl rfl)
  refine ax_down (N := mU A 16 r) (fun t => ∀ σ1, ax_rm σ1 m M (mUp (mEnd A r s) 60 0 0 0 (r + 1)) → ax_mf m M σ σ1 → sgI σ1 20 r (M 16) = nI (mGoods A r t) → ax_wp e0 mo 4 114 (16, [aR m, aI (nI r), aI (nI s), aI (nI t)], []) σ1 _) ?_ (fun t ht ih => ?_) 0 (Nat.zero_le _) _ st hf0 (if_pos ⟨rfl, rfl, rfl⟩)
  · intro σ1 h1 f1 e1
    obtain ⟨q1, q2, q3⟩ := rm_run h1 hBB (f := 14) (by decide) (show r < 80 by omega)
    refine sg_114_16 (d := 3) ⟨ax_kd h1.1.1, ?_⟩
    rw [q1, q3, (h1.2.2.2.1 r hr).2.2.2]
    refine ⟨q2, fun z => absurd z (nI_nlt (Nat.le_refl _) (show mU A 16 r < _ by omega)), fun _ => ⟨rfl, ?_, f1⟩⟩
    refine rm_11 (r := r) h1 (fun f r' k' j' a b => (mUp_f _ b r' k' j').symm) (fun r' q => rfl) rfl rfl rfl rfl (fun k i q n1 n2 => rfl) (h1.2.2.2.1 r hr).1 (fun r' hr' hg hx => ?_)
    by_cases q : r' = r
    · have e3 : mGoods (mUp (mEnd A r s) 60 0 0 0 (r + 1)) r (mU A 16 r) = mGoods A r (mU A 16 r) := mGoods_cong (A := A) (A' := mUp (mEnd A r s) 60 0 0 0 (r + 1)) (fun _ _ => rfl) (fun _ => rfl) _
      rw [q]
      exact e1.trans (congrArg nI e3.symm)
    · exact h1.2.2.2.2.2.1 r' hr' hg (fun z => q (by have z : r' + 1 = r + 1 := z; omega))
  · intro σ1 h1 f1 e1
    obtain ⟨q1, q2, q3⟩ := rm_run h1 hBB (f := 14) (by decide) (show r < 80 by omega)
    obtain ⟨u1, u2, u3⟩ := rm_run h1 hBB (f := 16) (by decide) (show r < 80 by omega)
    have hl := mGoods_lt A r t
    have hl8 : mGoods A r t < 2 ^ 8 := Nat.lt_of_lt_of_le hl (Nat.pow_le_pow_right (by decide) (by omega))
    refine sg_114_16 (d := 3) ⟨ax_kd h1.1.1, ?_⟩
    rw [q1, q3, (h1.2.2.2.1 r hr).2.2.2, u1, e1]
    refine ⟨q2, fun _ => ⟨ax_kd h1.1.1, u2, ax_kd h1.1.1, ?_⟩, fun z => absurd (nI_lt ht (by omega)) z⟩
    refine ax_use0 (ct_110 (k := t) h1 hBB hTT hr (by omega)) rfl ?_
    rw [hw t (by omega), mWellN_eq hN hr hG ht]
    have fin : ∀ v : Int32, v = nI (mGoods A r (t + 1)) → ax_wp e0 mo 4 114 (16, [aR m, aI (nI r), aI (nI s), aI (nI t + 1)], []) (putI σ1 20 r (M 16) v) (ax_ct (fun w σ2 => w = aU ∧ ax_rm σ2 m M (mEnd A r s) ∧ ax_mf m M σ σ2) (fun _ _ => False)) := fun v hv => by
      subst hv
      rw [nI_1]
      refine ih _ ?_ (f1.row a16 _ (Or.inl rfl)) (if_pos ⟨rfl, rfl, rfl⟩)
      refine rm_11 (r := r) h1 (fun f r' k' j' a b => rfl) (fun r' q => rfl) rfl rfl rfl rfl (fun k i q n1 n2 => by rw [gI_putI, if_neg n2]) ?_ (fun r' hr' hg hx => ?_)
      · rw [gI_putI, if_neg (fun z => n11 z.2.2.symm)]
        exact (h1.2.2.2.1 r hr).1
      · have hx1 : r' + 1 ≠ r + 1 := hx
        rw [gI_putI, if_neg (fun z => hx1 (by rw [z.2.1]))]
        exact h1.2.2.2.2.2.1 r' hr' hg hx
    have eg : mGoods A r (t + 1) = mGoods A r t + (if mWell A r t then 2 ^ t else 0) := rfl
    rw [eg] at fin
    refine sg_114_39 (d := 3) ?_
    rw [u3]
    refine ⟨fun z => ⟨u2, ?_⟩, fun z => ⟨u2, ?_⟩⟩
    · refine fin _ ?_
      rw [bI0 z]
      exact (ax_orI _ 0).trans (by rw [Nat.or_zero]; rfl)
    · refine fin _ ?_
      rw [bI1 z, one_shl t (by omega), ax_orI, or_top hl]
      rfl
theorem ct_115 (h : ax_rm σ m M A) (hI : mB A) (hT : mT A) (hr : r < mR A) (hk : k < mN A) : ax_ok e0 mo 4 115 [aR m, aI (nI r), aI (nI k)] σ (fun w σ2 => w = aI (bI (mNx A r k)) ∧ σ2 = σ) := by
  have hR := hI.1.2
  have h16 := (hI.2.2.2.2.1 r hr).2.2.2.2.2.2
  have hNN := hI.1.1
  have hn8 := mB_needs hI k hk
  have hk8 : k < 8 := by omega
  obtain ⟨q1, q2, q3⟩ := rm_run h hI (f := 14) (by decide) (show r < 80 by omega)
  obtain ⟨s1, s2, s3, s4⟩ := rm_st h (f := 4) (by decide) (by decide) hk8
  have s4 : sgI σ 20 k (M 4) = nI (mS A 4 k) := s4
  refine sg_115_0 (d := 3) ⟨ax_kd h.1.1, ?_⟩
  refine ax_use0 (ct_106 (a := 0) (b := 0) h hI hT hr hk8 (by decide) (by decide)) rfl ?_
  have hb := mBt_le A r k 0 0
  rw [mBt_one] at hb ⊢
  have loop : ax_wp e0 mo 4 115 (20, [aR m, aI (nI r), aI (nI k), aI (bI (mNxT A r k 0)), aI (nI 0)], []) σ (ax_ct (fun w σ2 => w = aI (bI (mNx A r k)) ∧ σ2 = σ) (fun _ _ => False)) := by
    refine ax_down (N := mU A 16 r) (fun t => ax_wp e0 mo 4 115 (20, [aR m, aI (nI r), aI (nI k), aI (bI (mNxT A r k t)), aI (nI t)], []) σ _) ?_ (fun t ht ih => ?_) 0 (Nat.zero_le _)
    · refine sg_115_20 (d := 3) ⟨ax_kd h.1.1, ?_⟩
      rw [q1, q3, (h.2.2.2.1 r hr).2.2.2]
      exact ⟨q2, fun z => absurd z (nI_nlt (Nat.le_refl _) (by omega)), fun _ => ⟨bI01 _, rfl, rfl⟩⟩
    · have et : mNxT A r k (t + 1) = (mNxT A r k t && (!(mBit (mS A 4 k) t) || mOver A r t)) := rfl
      rw [et] at ih
      refine sg_115_20 (d := 3) ⟨ax_kd h.1.1, ?_⟩
      rw [q1, q3, (h.2.2.2.1 r hr).2.2.2, s1, s3, s4, bit_nI (by omega) (by omega), nI_1]
      refine ⟨q2, fun _ => ⟨fun z => ?_, fun z => ⟨ax_kd h.1.1, s2, fun w => ?_, fun w => ⟨ax_kd h.1.1, ?_⟩⟩⟩, fun z => absurd (nI_lt ht (by omega)) z⟩
      · rw [bI0 z] at ih; exact ih
      · rw [bI1 z, bit_zero.mp w] at ih; exact ih
      · refine ax_use0 (ct_108 (k := t) h hI hT hr (by omega)) rfl ?_
        rw [bI1 z, not_false_b (fun v => w (bit_zero.mpr v))] at ih
        rw [bI1 z]
        refine sg_115_56 (d := 3) ?_
        rw [nI_1]
        refine ⟨fun v => ?_, fun v => ?_⟩
        · rw [bI0 v] at ih; exact ih
        · rw [bI1 v] at ih; exact ih
  have e0' : mNxT A r k 0 = Nat.blt 0 (mCnt A r k 0) := rfl
  rw [e0'] at loop
  refine sg_115_8 (d := 3) ⟨fun z => ?_, fun z => ?_⟩
  · rw [Nat.blt_eq.mpr ((pos_iff (by omega)).mp z)] at loop; exact loop
  · rw [not_true_b (fun w => z ((pos_iff (by omega)).mpr (Nat.blt_eq.mp w)))] at loop; exact loop
theorem mBeg_len (A : MS) (r k : Nat) (g : Bool) (t : Nat) : (mQ (mBeg A r k g t)).length ≤ (mQ A).length + t := by
  show (if g then mQ A ++ ((List.range t).filter (fun j => Nat.beq (mJ A 0 r k j) 0)).map (pl r k) else mQ A).length ≤ _
  cases g with
  | false => exact Nat.le_add_right _ _
  | true =>
    rw [if_pos rfl, List.length_append, List.length_map]
    have h1 := List.length_filter_le (fun j => Nat.beq (mJ A 0 r k j) 0) (List.range t)
    rw [List.length_range] at h1
    omega
theorem ct_116 (h : ax_rm σ m M A) (hI : mB A) (hT : mT A) (hr : r < mR A) (hk : k < mN A) (hG : mG A r) (hq : (mQ A).length + 16 ≤ 800) : ax_ok e0 mo 4 116 [aR m, aI (nI r), aI (nI k)] σ (fun w σ2 => w = aU ∧ ax_rm σ2 m M (mBeg A r k (mGd A r k) 16) ∧ ax_mf m M σ σ2) := by
  have hR := hI.1.2
  have h16 := (hI.2.2.2.2.1 r hr).2.2.2.2.2.2
  have hNN := hI.1.1
  have hn8 := mB_needs hI k hk
  have hk8 : k < 8 := by omega
  obtain ⟨q1, q2, q3⟩ := rm_run h hI (f := 14) (by decide) (show r < 80 by omega)
  obtain ⟨s1, s2, s3, s4⟩ := rm_st h (f := 4) (by decide) (by decide) hk8
  have s4 : sgI σ 20 k (M 4) = nI (mS A 4 k) := s4
  have jobs : ∀ g : Bool, ∀ x : Int32, ax_wp e0 mo 4 116 (59, [aR m, aI (nI r), aI (nI k), aI (bI g), aI 0, aU], []) σ (ax_ct (fun w σ2 => w = aU ∧ ax_rm σ2 m M (mBeg A r k g 16) ∧ ax_mf m M σ σ2) (fun _ _ => False)) := fun g _ => by
    refine ax_down (N := 16) (fun t => ∀ (σ1 : SG) (v : AV), ax_rm σ1 m M (mBeg A r k g t) → ax_mf m M σ σ1 → ax_wp e0 mo 4 116 (59, [aR m, aI (nI r), aI (nI k), aI (bI g), aI (nI t), v], []) σ1 _) ?_ (fun t ht ih => ?_) 0 (Nat.zero_le _) σ aU (by rw [mBeg_0]; exact h) (ax_mf.refl _ _ _)
    · intro σ1 v h1 f1
      exact sg_116_59 (d := 3) ⟨fun q => absurd q (by decide), fun _ => ⟨rfl, h1, f1⟩⟩
    · intro σ1 v h1 f1
      have hBt : mB (mBeg A r k g t) := mB_beg hI
      have hTt : mT (mBeg A r k g t) := mT_beg hT
      have hGt : mG (mBeg A r k g t) r := by
        unfold mG
        rw [show mU (mBeg A r k g t) 11 r = mU A 11 r from mBeg_f A (by decide) r 0 0]
        exact hG
      have es : mJ (mBeg A r k g t) 0 r k t = mJ A 0 r k t := mBeg_ge A (fun w => Nat.lt_irrefl _ w.2.2)
      have hs8 : mJ A 0 r k t ≤ 8 := (hI.2.2.2.2.2 r k t hr).1
      refine sg_116_59 (d := 3) ⟨fun _ => ?_, fun z => absurd (nI_lt (b := 16) ht (by decide)) z⟩
      refine ax_use0 ct_103 rfl ?_
      refine sg_116_73 (d := 3) ⟨ax_kd h1.1.1, ?_⟩
      refine ax_use0 (ct_104 h1 hBt hTt hr hk8 ht) rfl ?_
      rw [es]
      have nx : ∀ σ2, ax_rm σ2 m M (mBeg A r k g (t + 1)) → ax_mf m M σ σ2 → ax_wp e0 mo 4 116 (105, [aR m, aI (nI r), aI (nI k), aI (bI g), aI (nI t), aI (nI (pl r k t))], []) σ2 (ax_ct (fun w σ2 => w = aU ∧ ax_rm σ2 m M (mBeg A r k g 16) ∧ ax_mf m M σ σ2) (fun _ _ => False)) := fun σ2 h2 f2 => by
        refine sg_116_105 (d := 3) ?_
        rw [nI_1]
        exact ih σ2 _ h2 f2
      refine sg_116_81 (d := 3) (pk_eq (mJ A 0 r k t) 0 (fun z => ⟨fun w => ⟨ax_kd h1.1.1, ?_⟩, fun w => ⟨ax_kd h1.1.1, ?_⟩⟩) (fun z => ?_))
      · have eg := bI0 w
        subst eg
        refine ax_use (ct_105 (s := 6) h1 hBt hTt hr hk8 ht hGt) rfl fun w σ2 hw => ?_
        obtain ⟨rfl, h2, f2⟩ := hw
        rw [← mBeg_skip A z] at h2
        exact nx σ2 h2 (f1.trans f2)
      · have eg := bI1 w
        subst eg
        have hlen := mBeg_len A r k true t
        refine ax_use (ct_112 h1 hBt hTt hr hk8 ht hGt (by omega)) rfl fun w σ2 hw => ?_
        obtain ⟨rfl, h2, f2⟩ := hw
        refine sg_116_94 (d := 3) (nx σ2 ?_ (f1.trans f2))
        rw [mBeg_yes A z]
        exact h2
      · refine nx σ1 ?_ f1
        rw [mBeg_no A z]
        exact h1
  refine sg_116_0 (d := 3) ?_
  refine ax_down (N := mU A 16 r) (fun t => ax_wp e0 mo 4 116 (5, [aR m, aI (nI r), aI (nI k), aI (bI (mGdT A r k t)), aI (nI t), aU], []) σ _) ?_ (fun t ht ih => ?_) 0 (Nat.zero_le _)
  · refine sg_116_5 (d := 3) ⟨ax_kd h.1.1, ?_⟩
    rw [q1, q3, (h.2.2.2.1 r hr).2.2.2]
    exact ⟨q2, fun z => absurd z (nI_nlt (Nat.le_refl _) (by omega)), fun _ => jobs (mGd A r k) 0⟩
  · have et : mGdT A r k (t + 1) = (mGdT A r k t && (!(mBit (mS A 4 k) t) || mWellN A r t)) := rfl
    rw [et] at ih
    refine sg_116_5 (d := 3) ⟨ax_kd h.1.1, ?_⟩
    rw [q1, q3, (h.2.2.2.1 r hr).2.2.2, s1, s3, s4, bit_nI (by omega) (by omega), nI_1]
    refine ⟨q2, fun _ => ⟨fun z => ?_, fun z => ⟨ax_kd h.1.1, s2, fun w => ?_, fun w => ⟨ax_kd h.1.1, ?_⟩⟩⟩, fun z => absurd (nI_lt ht (by omega)) z⟩
    · rw [bI0 z] at ih; exact ih
    · rw [bI1 z, bit_zero.mp w] at ih; exact ih
    · refine ax_use0 (ct_110 (k := t) h hI hT hr (by omega)) rfl ?_
      rw [bI1 z, not_false_b (fun v => w (bit_zero.mpr v))] at ih
      rw [bI1 z]
      refine sg_116_41 (d := 3) ?_
      rw [nI_1]
      refine ⟨fun v => ?_, fun v => ?_⟩
      · rw [bI0 v] at ih; exact ih
      · rw [bI1 v] at ih; exact ih
end
end AXMP
