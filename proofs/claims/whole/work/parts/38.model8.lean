/-! The reference's other calls that only read. -/
section AXML
theorem ax_orI (a b : Nat) : nI a ||| nI b = nI (a ||| b) := by
  unfold nI
  apply Int32.toBitVec_inj.mp
  rw [Int32.toBitVec_or]
  apply BitVec.eq_of_toNat_eq
  rw [BitVec.toNat_or]
  show a % 2 ^ 32 ||| b % 2 ^ 32 = (a ||| b) % 2 ^ 32
  exact (Nat.or_mod_two_pow).symm
theorem bit_one {n t : Nat} : nI (n / 2 ^ t % 2) = 1 ↔ mBit n t = true := by
  rw [mBit_01]
  generalize mBit n t = b
  cases b <;> decide
theorem bit_zero {n t : Nat} : nI (n / 2 ^ t % 2) = 0 ↔ mBit n t = false := by
  rw [mBit_01]
  generalize mBit n t = b
  cases b <;> decide
theorem not_false_b {b : Bool} (h : ¬ b = false) : b = true := by cases b <;> simp_all
theorem not_true_b {b : Bool} (h : ¬ b = true) : b = false := by cases b <;> simp_all
theorem mBit_test (n t : Nat) : mBit n t = n.testBit t := by
  rw [Nat.testBit_eq_decide_div_mod_eq]
  unfold mBit
  cases q : Nat.beq (n / 2 ^ t % 2) 1 with
  | true => rw [ax_beq q]; rfl
  | false => exact (decide_eq_false (ax_bnq q)).symm
/-- stages that are needed, closed step by step -/
def mPass (A : MS) (a : Nat) : Nat → Nat
  | 0 => a
  | i + 1 => bif mBit (mPass A a i) i then mPass A a i ||| mS A 4 i else mPass A a i
def mTurn (A : MS) (a : Nat) : Nat → Nat
  | 0 => a
  | t + 1 => mPass A (mTurn A a t) (mN A)
theorem mPass_lt {A : MS} (hb : ∀ i, i < mN A → mS A 4 i < 2 ^ 8) {a : Nat} (ha : a < 2 ^ 8) : ∀ i, i ≤ mN A → mPass A a i < 2 ^ 8 := by
  intro i
  induction i with
  | zero => intro _; exact ha
  | succ i ih =>
    intro hi
    have h1 := ih (by omega)
    show (bif mBit (mPass A a i) i then mPass A a i ||| mS A 4 i else mPass A a i) < 2 ^ 8
    cases mBit (mPass A a i) i
    · exact h1
    · exact Nat.or_lt_two_pow h1 (hb i (by omega))
theorem mTurn_lt {A : MS} (hb : ∀ i, i < mN A → mS A 4 i < 2 ^ 8) {a : Nat} (ha : a < 2 ^ 8) : ∀ t, mTurn A a t < 2 ^ 8 := by
  intro t
  induction t with
  | zero => exact ha
  | succ t ih => exact mPass_lt hb ih (mN A) (Nat.le_refl _)
theorem mB_needs {A : MS} (hI : mB A) : ∀ i, i < mN A → mS A 4 i < 2 ^ 8 := fun i hi => Nat.lt_of_lt_of_le (hI.2.1 i hi).2.2.2 (Nat.pow_le_pow_right (by decide) hI.1.1)
section
variable {e0 mo : Nat} {σ : SG} {m : Nat} {M : Nat → Nat} {A : MS} {r k j : Nat}
theorem ct_94 (h : ax_rm σ m M A) (hI : mB A) (hk : k < mN A) : ax_ok e0 mo 0 94 [aR m, aI (nI k)] σ (fun w σ2 => w = aI (nI (mTurn A (mS A 4 k) 8)) ∧ σ2 = σ) := by
  have hN := hI.1.1
  have hb := mB_needs hI
  obtain ⟨g1, g2, g3, g4⟩ := rm_st h (f := 4) (by decide) (by decide) (show k < 8 by omega)
  have g4 : sgI σ 20 k (M 4) = nI (mS A 4 k) := g4
  refine sg_94_0 ⟨ax_kd h.1.1, ?_⟩
  rw [g1, g3, g4]
  refine ⟨g2, ?_⟩
  refine ax_down (N := 8) (fun t => ∀ v : AV, ax_wp e0 mo 0 94 (9, [aR m, aI (nI k), aI (nI (mTurn A (mS A 4 k) t)), aI (nI t), v], []) σ _) ?_ (fun t ht1 ih => ?_) 0 (Nat.zero_le _) aU
  · intro v
    exact sg_94_9 ⟨fun q => absurd q (by decide), fun _ => ⟨rfl, rfl⟩⟩
  · intro v
    have ht := mTurn_lt hb (hb k hk) t
    refine sg_94_9 ⟨fun _ => ?_, fun q => absurd (nI_lt (b := 8) ht1 (by decide)) q⟩
    refine ax_down (N := mN A) (fun i => ax_wp e0 mo 0 94 (18, [aR m, aI (nI k), aI (nI (mPass A (mTurn A (mS A 4 k) t) i)), aI (nI t), aI (nI i)], []) σ _) ?_ (fun i hi ih2 => ?_) 0 (Nat.zero_le _)
    · refine sg_94_18 ⟨ax_kd h.1.1, ?_⟩
      rw [h.2.1.1]
      refine ⟨fun q => absurd q (nI_nlt (Nat.le_refl _) (by omega)), fun _ => ?_⟩
      rw [nI_1]
      exact ih _
    · obtain ⟨q1, q2, q3, q4⟩ := rm_st h (f := 4) (by decide) (by decide) (show i < 8 by omega)
      have q4 : sgI σ 20 i (M 4) = nI (mS A 4 i) := q4
      have hp := mPass_lt hb ht i (by omega)
      refine sg_94_18 ⟨ax_kd h.1.1, ?_⟩
      rw [h.2.1.1, q1, q3, q4, bit_nI (by omega) (by omega), nI_1, ax_orI]
      refine ⟨fun _ => ⟨fun q => ⟨ax_kd h.1.1, q2, ?_⟩, fun q => ?_⟩, fun q => absurd (nI_lt hi (by omega)) q⟩
      · have e : mPass A (mTurn A (mS A 4 k) t) (i + 1) = mPass A (mTurn A (mS A 4 k) t) i ||| mS A 4 i := by
          show (bif mBit _ i then _ else _) = _
          rw [bit_one.mp q]; rfl
        rw [e] at ih2
        exact ih2
      · have e : mPass A (mTurn A (mS A 4 k) t) (i + 1) = mPass A (mTurn A (mS A 4 k) t) i := by
          show (bif mBit _ i then _ else _) = _
          rw [not_true_b (fun z => q (bit_one.mpr z))]; rfl
        rw [e] at ih2
        rw [show nI (mPass A (mTurn A (mS A 4 k) t) i) ||| 0 = nI (mPass A (mTurn A (mS A 4 k) t) i) from (ax_orI _ 0).trans (by rw [Nat.or_zero])]
        exact ih2
def oNeeds (A : MS) (x y : Int32) : OC := bif inB x (mN A) && inB y (mN A) then ((0, bI (mBit (mTurn A (mS A 4 x.toNatClampNeg) 8) y.toNatClampNeg)), A) else ((1, 0), A)
theorem ct_102 (h : ax_rm σ m M A) (hI : mB A) (x y : Int32) : ax_ok e0 mo 2 102 [aR m, aI x, aI y] σ (rf_an m M σ (oNeeds A x y)) := by
  have hN := hI.1.1
  unfold oNeeds
  have no : ∀ o : OC, o = ((1, 0), A) → ax_wp e0 mo 1 86 (0, ax_entry 86 [aR m, aI 0], []) σ (ax_ct (fun w σ2 => ax_wp e0 mo 2 102 (25, [aR m, aI x, aI y], ax_push w []) σ2 (ax_ct (rf_an m M σ o) (fun _ _ => False))) (fun E σ2 => ax_exc 102 22 (ax_ct (rf_an m M σ o) (fun _ _ => False)) E σ2)) := fun o e => by
    refine ax_use (as_86 h false) rfl fun w σ2 hw => ?_
    obtain ⟨rfl, h2, f2, t2⟩ := hw
    subst e
    exact sg_102_25 (d := 1) ⟨fun _ => ⟨Or.inl rfl, fun z => (Nat.one_ne_zero z).elim, t2, h2, f2⟩, fun q => absurd rfl q⟩
  refine sg_102_0 (d := 1) ⟨ax_kd h.1.1, ?_⟩
  refine ax_use0 (ct_90 h x) rfl ?_
  refine sg_102_6 (d := 1) ⟨fun q => ⟨ax_kd h.1.1, no _ ?_⟩, fun q => ⟨ax_kd h.1.1, ?_⟩⟩
  · rw [show inB x (mN A) = false from bI0 q]; rfl
  have e1 : inB x (mN A) = true := bI1 q
  refine ax_use0 (ct_90 h y) rfl ?_
  refine sg_102_14 (d := 1) ⟨fun q => ⟨ax_kd h.1.1, no _ ?_⟩, fun q => ⟨ax_kd h.1.1, ?_⟩⟩
  · rw [e1, show inB y (mN A) = false from bI0 q]; rfl
  have e2 : inB y (mN A) = true := bI1 q
  rw [e1, e2]
  obtain ⟨k, hk, rfl⟩ := inB_yes e1 (by omega)
  obtain ⟨j, hj, rfl⟩ := inB_yes e2 (by omega)
  have c1 : (nI k).toNatClampNeg = k := nI_clamp (by omega)
  have c2 : (nI j).toNatClampNeg = j := nI_clamp (by omega)
  rw [c1, c2]
  refine ax_use (as_86 h true) rfl fun w σ2 hw => ?_
  obtain ⟨rfl, h2, f2, t2⟩ := hw
  refine sg_102_25 (d := 1) ⟨fun q => absurd q (by decide), fun _ => ⟨ax_kd h2.1.1, ?_⟩⟩
  refine ax_use0 (ct_94 h2 hI hk) rfl ?_
  have hb := mTurn_lt (mB_needs hI) (mB_needs hI k hk) 8
  refine sg_102_33 (d := 1) ?_
  rw [bit_nI (by omega) (by omega)]
  refine ⟨fun q => ⟨Or.inr rfl, fun _ => ?_, t2, h2, f2⟩, fun q => ⟨Or.inl rfl, fun _ => ?_, t2, h2, f2⟩⟩
  · show _ = aI (bI (mBit _ j))
    rw [bit_one.mp q]; rfl
  · show _ = aI (bI (mBit _ j))
    rw [not_true_b (fun z => q (bit_one.mpr z))]; rfl
/-- few bits -/
theorem bc_small {x n : Nat} (hx : x < 2 ^ n) : ∀ i, ax_bc x i ≤ n := by
  have key : ∀ i, ax_bc x (n + i) = ax_bc x n := by
    intro i
    induction i with
    | zero => rfl
    | succ i ih =>
      show ax_bc x (n + i) + x / 2 ^ (n + i) % 2 = _
      rw [ih, Nat.div_eq_of_lt (Nat.lt_of_lt_of_le hx (Nat.pow_le_pow_right (by decide) (Nat.le_add_right _ _))), Nat.zero_mod, Nat.add_zero]
  intro i
  rcases Nat.le_total i n with q | q
  · exact Nat.le_trans (ax_bc_le x i) q
  · rw [show i = n + (i - n) by omega, key]
    exact ax_bc_le x n
theorem mB_jobs (hI : mB A) (hk : k < mN A) : k < 8 ∧ mS A 3 k < 2 ^ 16 ∧ ax_bc (mS A 3 k) 16 ≤ mS A 1 k * mS A 2 k ∧ mS A 1 k * mS A 2 k ≤ 16 := by
  have hN := hI.1.1
  obtain ⟨⟨a1, a2⟩, ⟨b1, b2⟩, c, -⟩ := hI.2.1 k hk
  have h16 : mS A 1 k * mS A 2 k ≤ 16 := Nat.mul_le_mul a2 b2
  exact ⟨by omega, Nat.lt_of_lt_of_le c (Nat.pow_le_pow_right (by decide) h16), bc_small c 16, h16⟩
def mJobs (A : MS) (k : Nat) : Nat := mS A 1 k * mS A 2 k - ax_bc (mS A 3 k) 16
def oJobs (A : MS) (x : Int32) : OC := bif inB x (mN A) then ((0, nI (mJobs A x.toNatClampNeg)), A) else ((1, 0), A)
theorem ct_101 (h : ax_rm σ m M A) (hI : mB A) (x : Int32) : ax_ok e0 mo 2 101 [aR m, aI x] σ (rf_an m M σ (oJobs A x)) := by
  have hN := hI.1.1
  refine sg_101_0 (d := 1) ⟨ax_kd h.1.1, ?_⟩
  refine ax_use0 (ct_90 h x) rfl ?_
  refine sg_101_6 (d := 1) ⟨ax_kd h.1.1, ?_⟩
  refine ax_use (as_86 h (inB x (mN A))) rfl fun w σ2 hw => ?_
  obtain ⟨rfl, h2, f2, t2⟩ := hw
  unfold oJobs
  refine sg_101_9 (d := 1) ⟨fun q => ?_, fun q => ⟨ax_kd h2.1.1, ?_⟩⟩
  · rw [bI0 q] at t2 ⊢
    exact ⟨fun z => (Nat.one_ne_zero z).elim, t2, h2, f2⟩
  · have e := bI1 q
    rw [e] at t2 ⊢
    obtain ⟨k, hk, rfl⟩ := inB_yes e (by omega)
    have c1 : (nI k).toNatClampNeg = k := nI_clamp (by omega)
    rw [c1]
    obtain ⟨b1, b2, b3, b4⟩ := mB_jobs hI hk
    refine ax_use0 (ct_96 h2 hI b1 b2 b3) rfl ?_
    exact sg_101_17 (d := 1) ⟨fun _ => rfl, t2, h2, f2⟩
/-- the marks of a run's stages, and what they need, small -/
def mPB (A : MS) : Prop := ∀ r k, r < mR A → k < mU A 16 r → mP A 4 r k < 2 ^ mU A 16 r ∧ mP A 7 r k ≤ 1 ∧ mP A 8 r k ≤ 1 ∧ mP A 9 r k ≤ 1 ∧ mP A 5 r k ≤ 2 ∧ mP A 6 r k ≤ 3
/-- runs that go on have the stages as they are -/
def mNow (A : MS) : Prop := ∀ r, r < mR A → mG A r → mU A 16 r = mN A ∧ ∀ k f, k < mU A 16 r → 1 ≤ f → f ≤ 9 → mP A f r k = mS A f k
theorem mGoods_lt (A : MS) (r : Nat) : ∀ n, mGoods A r n < 2 ^ n := by
  intro n
  induction n with
  | zero => exact Nat.one_pos
  | succ n ih =>
    show mGoods A r n + (if mWell A r n then 2 ^ n else 0) < 2 ^ (n + 1)
    rw [Nat.pow_succ]
    split <;> omega
theorem bit_add {x n t : Nat} (ht : t < n) : mBit (x + 2 ^ n) t = mBit x t := by
  unfold mBit
  obtain ⟨d, rfl⟩ : ∃ d, n = t + (d + 1) := ⟨n - t - 1, by omega⟩
  have e : (x + 2 ^ (t + (d + 1))) / 2 ^ t % 2 = x / 2 ^ t % 2 := by
    rw [Nat.pow_add, Nat.add_mul_div_left _ _ (Nat.two_pow_pos t), Nat.pow_succ]
    omega
  rw [e]
theorem bit_top {x n : Nat} (hx : x < 2 ^ n) : mBit (x + 2 ^ n) n = true := by
  unfold mBit
  have e : (x + 2 ^ n) / 2 ^ n % 2 = 1 := by
    rw [Nat.add_div_right _ (Nat.two_pow_pos n), Nat.div_eq_of_lt hx]
  rw [e]; rfl
theorem bit_high {x n : Nat} (hx : x < 2 ^ n) {t : Nat} (ht : n ≤ t) : mBit x t = false := by
  unfold mBit
  rw [Nat.div_eq_of_lt (Nat.lt_of_lt_of_le hx (Nat.pow_le_pow_right (by decide) ht))]
  rfl
theorem mGoods_bit (A : MS) (r : Nat) : ∀ n t, t < n → mBit (mGoods A r n) t = mWell A r t := by
  intro n
  induction n with
  | zero => intro t ht; exact absurd ht (Nat.not_lt_zero t)
  | succ n ih =>
    intro t ht
    show mBit (mGoods A r n + (if mWell A r n then 2 ^ n else 0)) t = _
    rcases Nat.lt_succ_iff_lt_or_eq.mp ht with q | q
    · split
      · rw [bit_add q]; exact ih t q
      · exact ih t q
    · subst q
      cases w : mWell A r t with
      | true => exact bit_top (mGoods_lt A r t)
      | false => exact bit_high (mGoods_lt A r t) (Nat.le_refl _)
def oIsGood (A : MS) (x y : Int32) : OC := bif stgB A x y then ((0, bI (mWell A x.toNatClampNeg y.toNatClampNeg)), A) else ((1, 0), A)
theorem mGb_iff : mGb A r = true ↔ mG A r := by
  unfold mGb mG
  rw [Bool.or_eq_true, Nat.beq_eq, Nat.beq_eq]
theorem mWellN_eq (hN : mNow A) (hr : r < mR A) (hG : mG A r) (hk : k < mU A 16 r) : mWellN A r k = mWell A r k := by
  unfold mWellN mWell
  rw [(hN r hr hG).2 k 8 hk (by decide) (by decide)]
theorem ct_129 (h : ax_rm σ m M A) (hI : mB A) (hT : mT A) (hN : mNow A) (h60 : A.1 60 0 0 0 = 0) (x y : Int32) : ax_ok e0 mo 4 129 [aR m, aI x, aI y] σ (rf_an m M σ (oIsGood A x y)) := by
  have hR := hI.1.2
  refine sg_129_0 (d := 3) ⟨ax_kd h.1.1, ?_⟩
  refine ax_use (ct_128 h hI x y) rfl fun w σ2 hw => ?_
  obtain ⟨rfl, h2, f2, t2⟩ := hw
  unfold oIsGood
  refine sg_129_6 (d := 3) ⟨fun q => ⟨Or.inl rfl, ?_⟩, fun q => ⟨ax_kd h2.1.1, ?_⟩⟩
  · rw [bI0 q] at t2 ⊢
    exact ⟨fun z => (Nat.one_ne_zero z).elim, t2, h2, f2⟩
  · have e := bI1 q
    rw [e] at t2 ⊢
    obtain ⟨r, k, rfl, rfl, hr, hk, hk8, c1, c2⟩ := stgB_yes e hI
    rw [c1, c2]
    refine ax_use0 (ct_111 h2 hI hr) rfl ?_
    refine sg_129_14 (d := 3) ⟨fun q => ⟨ax_kd h2.1.1, ?_⟩, fun q => ⟨ax_kd h2.1.1, ?_⟩⟩
    · have hG : ¬ mG A r := fun z => by rw [mGb_iff.mpr z] at q; exact absurd q (by decide)
      obtain ⟨g1, g2, g3⟩ := rm_run h2 hI (f := 16) (by decide) (show r < 80 by omega)
      have hl := mGoods_lt A r (mU A 16 r)
      have h16 := (hI.2.2.2.2.1 r hr).2.2.2.2.2.2
      have hNN := hI.1.1
      have hl2 : mGoods A r (mU A 16 r) < 2 ^ 8 := Nat.lt_of_lt_of_le hl (Nat.pow_le_pow_right (by decide) (by omega))
      rw [g1, g3, h2.2.2.2.2.2.1 r hr hG (by omega), bit_nI (by omega) (by omega)]
      refine ⟨g2, fun q => ⟨Or.inr rfl, fun _ => ?_, t2, h2, f2⟩, fun q => ⟨Or.inl rfl, fun _ => ?_, t2, h2, f2⟩⟩
      · show _ = aI (bI (mWell A r k))
        rw [← mGoods_bit A r _ k hk, bit_one.mp q]; rfl
      · show _ = aI (bI (mWell A r k))
        rw [← mGoods_bit A r _ k hk, not_true_b (fun z => q (bit_one.mpr z))]; rfl
    · have hG : mG A r := mGb_iff.mp (bI1 q)
      refine ax_use0 (ct_110 h2 hI hT hr hk8) rfl ?_
      rw [mWellN_eq hN hr hG hk]
      refine sg_129_23 (d := 3) ⟨fun q => ⟨Or.inl rfl, fun _ => ?_, t2, h2, f2⟩, fun q => ⟨Or.inr rfl, fun _ => ?_, t2, h2, f2⟩⟩
      · show _ = aI (bI (mWell A r k))
        rw [bI0 q]; rfl
      · show _ = aI (bI (mWell A r k))
        rw [bI1 q]; rfl
/-- the queue is no longer than its row, its places are jobs' -/
def mQB (A : MS) : Prop := (mQ A).length ≤ 800 ∧ ∀ p, p ∈ mQ A → p < 10240
theorem mQ_at {i : Nat} (hi : i < (mQ A).length) : (mQ A).getD i 0 ∈ mQ A := by
  rw [List.getD_eq_getElem?_getD, List.getElem?_eq_getElem hi]
  exact List.getElem_mem hi
def oQRun (A : MS) (x : Int32) : OC := bif inB x (mQ A).length then ((0, nI (pR ((mQ A).getD x.toNatClampNeg 0))), A) else ((1, 0), A)
def oQStage (A : MS) (x : Int32) : OC := bif inB x (mQ A).length then ((0, nI (pK ((mQ A).getD x.toNatClampNeg 0))), A) else ((1, 0), A)
theorem ct_132 (h : ax_rm σ m M A) (hQ : mQB A) (x : Int32) : ax_ok e0 mo 1 132 [aR m, aI x] σ (rf_an m M σ (oQRun A x)) := by
  have hl := hQ.1
  refine sg_132_0 (d := 0) ⟨ax_kd h.1.1, ?_⟩
  rw [h.2.1.2.2.1]
  refine ax_use0 (ct_85 _ _ _) rfl ?_
  refine sg_132_12 (d := 0) ⟨ax_kd h.1.1, ?_⟩
  refine ax_use (as_86 h (inB x (mQ A).length)) rfl fun w σ2 hw => ?_
  obtain ⟨rfl, h2, f2, t2⟩ := hw
  unfold oQRun
  refine sg_132_15 (d := 0) ⟨fun q => ?_, fun q => ⟨ax_kd h2.1.1, ?_⟩⟩
  · rw [bI0 q] at t2 ⊢
    exact ⟨fun z => (Nat.one_ne_zero z).elim, t2, h2, f2⟩
  · have e := bI1 q
    rw [e] at t2 ⊢
    obtain ⟨i, hi, rfl⟩ := inB_yes e (by omega)
    have hp := hQ.2 _ (mQ_at hi)
    obtain ⟨g1, g2, g3⟩ := rm_q h2 (i := i) (by omega)
    rw [g1, g3, h2.2.2.2.2.2.2.2.1 i hi]
    refine ⟨g2, by decide, fun _ => ?_, t2, h2, f2⟩
    rw [show (128 : Int32) = nI 128 from rfl, pk_div (by omega) (by decide) (by decide)]
    rfl
theorem ct_133 (h : ax_rm σ m M A) (hQ : mQB A) (x : Int32) : ax_ok e0 mo 1 133 [aR m, aI x] σ (rf_an m M σ (oQStage A x)) := by
  have hl := hQ.1
  refine sg_133_0 (d := 0) ⟨ax_kd h.1.1, ?_⟩
  rw [h.2.1.2.2.1]
  refine ax_use0 (ct_85 _ _ _) rfl ?_
  refine sg_133_12 (d := 0) ⟨ax_kd h.1.1, ?_⟩
  refine ax_use (as_86 h (inB x (mQ A).length)) rfl fun w σ2 hw => ?_
  obtain ⟨rfl, h2, f2, t2⟩ := hw
  unfold oQStage
  refine sg_133_15 (d := 0) ⟨fun q => ?_, fun q => ⟨ax_kd h2.1.1, ?_⟩⟩
  · rw [bI0 q] at t2 ⊢
    exact ⟨fun z => (Nat.one_ne_zero z).elim, t2, h2, f2⟩
  · have e := bI1 q
    rw [e] at t2 ⊢
    obtain ⟨i, hi, rfl⟩ := inB_yes e (by omega)
    have hp := hQ.2 _ (mQ_at hi)
    obtain ⟨g1, g2, g3⟩ := rm_q h2 (i := i) (by omega)
    rw [g1, g3, h2.2.2.2.2.2.2.2.1 i hi]
    refine ⟨g2, by decide, by decide, fun _ => ?_, t2, h2, f2⟩
    rw [show (128 : Int32) = nI 128 from rfl, pk_rem (by omega) (by decide) (by decide), show (16 : Int32) = nI 16 from rfl, pk_div (by omega) (by decide) (by decide)]
    rfl
/-- what a worker has -/
def mWB (A : MS) : Prop := ∀ w, mW A w ≤ 10240
def oWRun (A : MS) (x : Int32) : OC := bif inB x 4 then ((0, bif Nat.beq (mW A x.toNatClampNeg) 0 then -1 else nI (pR (mW A x.toNatClampNeg - 1))), A) else ((1, 0), A)
def oWStage (A : MS) (x : Int32) : OC := bif inB x 4 then ((0, bif Nat.beq (mW A x.toNatClampNeg) 0 then -1 else nI (pK (mW A x.toNatClampNeg - 1))), A) else ((1, 0), A)
theorem rm_w (h : ax_rm σ m M A) {w : Nat} (hw : w < 4) : sgR σ 7 20 m = M 20 ∧ ax_in σ 20 (M 20) (nI w) ∧ (nI w).toNatClampNeg = w ∧ sgI σ 20 w (M 20) = nI (mW A w) - 1 := by
  obtain ⟨g1, g2⟩ := rm_row h (i := 20) (mr_of (by decide) (by decide) (by decide) (by decide))
  exact ⟨g1, ax_in_nI (n := 4) g2 hw (by decide), nI_clamp (by omega), h.2.2.2.2.2.2.2.2.1 w hw⟩
theorem nI_m1 {n : Nat} (hn : n < 2 ^ 31) : nI n - 1 = -1 ↔ n = 0 := by
  rcases Nat.eq_zero_or_pos n with q | q
  · subst q; exact ⟨fun _ => rfl, fun _ => by decide⟩
  · refine ⟨fun h => ?_, fun h => by omega⟩
    rw [show nI n - 1 = nI (n - 1) from pk_sub (a := n) (b := 1) q] at h
    exact absurd (show nI (n - 1) < 0 by rw [h]; decide) (nI_pos (by omega))
theorem nI_p1 {n : Nat} (h : n ≠ 0) : nI n - 1 = nI (n - 1) := pk_sub (a := n) (b := 1) (by omega)
theorem ct_140 (h : ax_rm σ m M A) (hW : mWB A) (x : Int32) : ax_ok e0 mo 2 140 [aR m, aI x] σ (rf_an m M σ (oWRun A x)) := by
  refine sg_140_0 (d := 1) ?_
  refine ax_use0 (ct_134 x) rfl ?_
  refine sg_140_5 (d := 1) ⟨ax_kd h.1.1, ?_⟩
  refine ax_use (as_86 h (inB x 4)) rfl fun w σ2 hw => ?_
  obtain ⟨rfl, h2, f2, t2⟩ := hw
  unfold oWRun
  refine sg_140_8 (d := 1) ⟨fun q => ?_, fun q => ⟨ax_kd h2.1.1, ?_⟩⟩
  · rw [bI0 q] at t2 ⊢
    exact ⟨fun z => (Nat.one_ne_zero z).elim, t2, h2, f2⟩
  · have e := bI1 q
    rw [e] at t2 ⊢
    obtain ⟨i, hi, rfl⟩ := inB_yes e (by decide)
    have hp := hW i
    obtain ⟨g1, g2, g3, g4⟩ := rm_w h2 hi
    rw [g1, g3, g4]
    refine ⟨g2, fun q => ⟨fun _ => ?_, t2, h2, f2⟩, fun q => ⟨ax_kd h2.1.1, g2, by decide, fun _ => ?_, t2, h2, f2⟩⟩
    · have e0 := (nI_m1 (by omega)).mp q
      show _ = aI (bif Nat.beq (mW A i) 0 then _ else _)
      rw [e0]; rfl
    · have e0 : mW A i ≠ 0 := fun z => q ((nI_m1 (by omega)).mpr z)
      show _ = aI (bif Nat.beq (mW A i) 0 then _ else _)
      rw [nb_ne e0, nI_p1 e0, show (128 : Int32) = nI 128 from rfl, pk_div (by omega) (by decide) (by decide)]
      rfl
theorem ct_141 (h : ax_rm σ m M A) (hW : mWB A) (x : Int32) : ax_ok e0 mo 2 141 [aR m, aI x] σ (rf_an m M σ (oWStage A x)) := by
  refine sg_141_0 (d := 1) ?_
  refine ax_use0 (ct_134 x) rfl ?_
  refine sg_141_5 (d := 1) ⟨ax_kd h.1.1, ?_⟩
  refine ax_use (as_86 h (inB x 4)) rfl fun w σ2 hw => ?_
  obtain ⟨rfl, h2, f2, t2⟩ := hw
  unfold oWStage
  refine sg_141_8 (d := 1) ⟨fun q => ?_, fun q => ⟨ax_kd h2.1.1, ?_⟩⟩
  · rw [bI0 q] at t2 ⊢
    exact ⟨fun z => (Nat.one_ne_zero z).elim, t2, h2, f2⟩
  · have e := bI1 q
    rw [e] at t2 ⊢
    obtain ⟨i, hi, rfl⟩ := inB_yes e (by decide)
    have hp := hW i
    obtain ⟨g1, g2, g3, g4⟩ := rm_w h2 hi
    rw [g1, g3, g4]
    refine ⟨g2, fun q => ⟨fun _ => ?_, t2, h2, f2⟩, fun q => ⟨ax_kd h2.1.1, g2, by decide, by decide, fun _ => ?_, t2, h2, f2⟩⟩
    · have e0 := (nI_m1 (by omega)).mp q
      show _ = aI (bif Nat.beq (mW A i) 0 then _ else _)
      rw [e0]; rfl
    · have e0 : mW A i ≠ 0 := fun z => q ((nI_m1 (by omega)).mpr z)
      show _ = aI (bif Nat.beq (mW A i) 0 then _ else _)
      rw [nb_ne e0, nI_p1 e0, show (128 : Int32) = nI 128 from rfl, pk_rem (by omega) (by decide) (by decide), show (16 : Int32) = nI 16 from rfl, pk_div (by omega) (by decide) (by decide)]
      rfl
/-- the cache entries -/
def mEB (A : MS) : Prop := (mE A).length ≤ 10 ∧ ∀ e, e ∈ mE A → e.1 < mN A ∧ 1 ≤ mS A 6 e.1 ∧ mS A 6 e.1 ≤ 3 ∧ e.2 < mPow (mS A 6 e.1)
theorem mE_at {i : Nat} (hi : i < (mE A).length) : (mE A).getD i (0, 0) ∈ mE A := by
  rw [List.getD_eq_getElem?_getD, List.getElem?_eq_getElem hi]
  exact List.getElem_mem hi
theorem mPow_le (n : Nat) : 1 ≤ mPow n ∧ mPow n ≤ 1000000 := by
  unfold mPow
  split <;> decide
theorem ct_142 {n : Nat} (hn : n < 2 ^ 31) : ax_ok e0 mo 0 142 [aI (nI n)] σ (fun w σ2 => w = aI (nI (mPow n)) ∧ σ2 = σ) := by
  refine sg_142_0 (pk_eq n 0 (fun q => ?_) (fun q => pk_eq n 1 (fun q1 => ?_) (fun q1 => pk_eq n 2 (fun q2 => ?_) (fun q2 => ?_))))
  · subst q; exact ⟨rfl, rfl⟩
  · subst q1; exact ⟨rfl, rfl⟩
  · subst q2; exact ⟨rfl, rfl⟩
  · obtain ⟨c, rfl⟩ : ∃ c, n = c + 3 := ⟨n - 3, by omega⟩
    exact ⟨rfl, rfl⟩
theorem rm_e (h : ax_rm σ m M A) {i : Nat} (hi : i < 11) : sgR σ 7 21 m = M 21 ∧ ax_in σ 20 (M 21) (nI i) ∧ (nI i).toNatClampNeg = i := by
  obtain ⟨g1, g2⟩ := rm_row h (i := 21) (mr_of (by decide) (by decide) (by decide) (by decide))
  exact ⟨g1, ax_in_nI (n := 11) g2 hi (by decide), nI_clamp (by omega)⟩
abbrev mCe (e : Nat × Nat) : Nat := 10 * e.2 + e.1
def oEStage (A : MS) (x : Int32) : OC := bif inB x (mE A).length then ((0, nI ((mE A).getD x.toNatClampNeg (0, 0)).1), A) else ((1, 0), A)
def mInOf (A : MS) (e : Nat × Nat) (j : Nat) : Int32 := bif Nat.blt j (mS A 6 e.1) then nI (e.2 / mPow (mS A 6 e.1 - 1 - j) % 100) else -1
def oEInput (A : MS) (x y : Int32) : OC := bif inB x (mE A).length && inB y 3 then ((0, mInOf A ((mE A).getD x.toNatClampNeg (0, 0)) y.toNatClampNeg), A) else ((1, 0), A)
theorem mE_bd (hE : mEB A) (hI : mB A) {e : Nat × Nat} (he : e ∈ mE A) : e.1 < 8 ∧ e.2 < 1000000 ∧ mCe e < 2 ^ 30 ∧ mCe e % 10 = e.1 ∧ mCe e / 10 = e.2 := by
  have hN := hI.1.1
  obtain ⟨h1, h2, h3, h4⟩ := hE.2 e he
  have h5 := mPow_le (mS A 6 e.1)
  show _ ∧ _ ∧ 10 * e.2 + e.1 < _ ∧ (10 * e.2 + e.1) % 10 = _ ∧ (10 * e.2 + e.1) / 10 = _
  omega
theorem ct_149 (h : ax_rm σ m M A) (hI : mB A) (hE : mEB A) (x : Int32) : ax_ok e0 mo 1 149 [aR m, aI x] σ (rf_an m M σ (oEStage A x)) := by
  have hl := hE.1
  refine sg_149_0 (d := 0) ⟨ax_kd h.1.1, ?_⟩
  rw [h.2.1.2.2.2]
  refine ax_use0 (ct_85 _ _ _) rfl ?_
  refine sg_149_12 (d := 0) ⟨ax_kd h.1.1, ?_⟩
  refine ax_use (as_86 h (inB x (mE A).length)) rfl fun w σ2 hw => ?_
  obtain ⟨rfl, h2, f2, t2⟩ := hw
  unfold oEStage
  refine sg_149_15 (d := 0) ⟨fun q => ?_, fun q => ⟨ax_kd h2.1.1, ?_⟩⟩
  · rw [bI0 q] at t2 ⊢
    exact ⟨fun z => (Nat.one_ne_zero z).elim, t2, h2, f2⟩
  · have e := bI1 q
    rw [e] at t2 ⊢
    obtain ⟨i, hi, rfl⟩ := inB_yes e (by omega)
    obtain ⟨p1, p2, p3, p4, p5⟩ := mE_bd hE hI (mE_at hi)
    obtain ⟨g1, g2, g3⟩ := rm_e h2 (i := i) (by omega)
    rw [g1, g3, h2.2.2.2.2.2.2.2.2.2 i hi]
    refine ⟨g2, by decide, fun _ => ?_, t2, h2, f2⟩
    rw [show (10 : Int32) = nI 10 from rfl, pk_rem (by omega) (by decide) (by decide), p4]
    rfl
theorem ct_150 (h : ax_rm σ m M A) (hI : mB A) (hE : mEB A) (x y : Int32) : ax_ok e0 mo 1 150 [aR m, aI x, aI y] σ (rf_an m M σ (oEInput A x y)) := by
  have hl := hE.1
  have hN := hI.1.1
  unfold oEInput
  have no : ∀ o : OC, o = ((1, 0), A) → ax_wp e0 mo 0 86 (0, ax_entry 86 [aR m, aI 0], []) σ (ax_ct (fun w σ2 => ax_wp e0 mo 1 150 (32, [aR m, aI x, aI y, aU], ax_push w []) σ2 (ax_ct (rf_an m M σ o) (fun _ _ => False))) (fun E σ2 => ax_exc 150 29 (ax_ct (rf_an m M σ o) (fun _ _ => False)) E σ2)) := fun o e => by
    refine ax_use (as_86 h false) rfl fun w σ2 hw => ?_
    obtain ⟨rfl, h2, f2, t2⟩ := hw
    subst e
    exact sg_150_32 (d := 0) ⟨fun _ => ⟨fun z => (Nat.one_ne_zero z).elim, t2, h2, f2⟩, fun q => absurd rfl q⟩
  refine sg_150_0 (d := 0) ⟨ax_kd h.1.1, ?_⟩
  rw [h.2.1.2.2.2]
  refine ax_use0 (ct_85 _ _ _) rfl ?_
  refine sg_150_12 (d := 0) ⟨fun q => ⟨ax_kd h.1.1, no _ ?_⟩, fun q => ?_⟩
  · rw [show inB x (mE A).length = false from bI0 q]; rfl
  have e1 : inB x (mE A).length = true := bI1 q
  refine ax_use0 (ct_85 _ _ _) rfl ?_
  refine sg_150_21 (d := 0) ⟨fun q => ⟨ax_kd h.1.1, no _ ?_⟩, fun q => ⟨ax_kd h.1.1, ?_⟩⟩
  · rw [e1, show inB y 3 = false from bI0 q]; rfl
  have e2 : inB y 3 = true := bI1 q
  rw [e1, e2]
  obtain ⟨i, hi, rfl⟩ := inB_yes e1 (by omega)
  obtain ⟨j, hj, rfl⟩ := inB_yes e2 (by decide)
  have c1 : (nI i).toNatClampNeg = i := nI_clamp (by omega)
  have c2 : (nI j).toNatClampNeg = j := nI_clamp (by omega)
  rw [c1, c2]
  have hm := mE_at hi
  obtain ⟨p1, p2, p3, p4, p5⟩ := mE_bd hE hI hm
  obtain ⟨b1, b2, b3, b4⟩ := hE.2 _ hm
  refine ax_use (as_86 h true) rfl fun w σ2 hw => ?_
  obtain ⟨rfl, h2, f2, t2⟩ := hw
  obtain ⟨g1, g2, g3⟩ := rm_e h2 (i := i) (by omega)
  generalize hee : (mE A).getD i (0, 0) = e at p1 p2 p3 p4 p5 b1 b2 b3 b4 ⊢
  obtain ⟨s1, s2, s3, s4⟩ := rm_st h2 (f := 6) (by decide) (by decide) p1
  have s4 : sgI σ2 20 e.1 (M 6) = nI (mS A 6 e.1) := s4
  have ev : sgI σ2 20 i (M 21) = nI (mCe e) := by rw [h2.2.2.2.2.2.2.2.2.2 i hi, hee]
  refine sg_150_32 (d := 0) ⟨fun q => absurd q (by decide), fun _ => ⟨ax_kd h2.1.1, ax_kd h2.1.1, ?_⟩⟩
  rw [g1, c1, ev, show (10 : Int32) = nI 10 from rfl, pk_rem (by omega) (by decide) (by decide), p4, pk_div (by omega) (by decide) (by decide), p5, s1, s3, s4]
  refine ⟨g2, by decide, s2, pk_lt j (mS A 6 e.1) (fun q => ⟨ax_kd h2.1.1, g2, by decide, ?_⟩) (fun q => ?_)⟩
  · rw [nI_p1 (by omega), pk_sub (by omega)]
    refine ax_use0 (ct_142 (by omega)) rfl ?_
    have hp := mPow_le (mS A 6 e.1 - 1 - j)
    refine sg_150_74 (d := 0) ?_
    rw [pk_div (by omega) (by omega) (by omega), show (100 : Int32) = nI 100 from rfl, pk_rem (Nat.lt_of_le_of_lt (Nat.div_le_self _ _) (by omega)) (by decide) (by decide)]
    refine ⟨nI_ne0 (by omega) (by omega), by decide, fun _ => ?_, t2, h2, f2⟩
    show _ = aI (mInOf A e j)
    unfold mInOf
    rw [Nat.blt_eq.mpr q]
    rfl
  · refine ⟨fun _ => ?_, t2, h2, f2⟩
    show _ = aI (mInOf A e j)
    unfold mInOf
    rw [not_true_b (fun z => absurd (Nat.blt_eq.mp z) (by omega))]
    rfl
end
end AXML
