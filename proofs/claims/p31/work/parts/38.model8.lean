/-! The reference's other calls that only read. -/
section AXML
theorem ax_orI (a b : Nat) : nI a ||| nI b = nI (a ||| b) := by
  unfold nI
  apply Int32.toBitVec_inj.mp
  rw [Int32.toBitVec_or]
  apply BitVec.eq_of_toNat_eq
  rw [BitVec.toNat_or]
  show a % 2 ^ 32 ||| b % 2 ^ 32 = (a ||| b) % 2 ^ 32
  exact (Nat.or_mod_two_pow).symm
theorem bit_one {n t : Nat} : nI (n / 2 ^ t % 2) = 1 ↔ mBit n t = true := by
  rw [mBit_01]
  generalize mBit n t = b
  cases b <;> decide
theorem bit_zero {n t : Nat} : nI (n / 2 ^ t % 2) = 0 ↔ mBit n t = false := by
  rw [mBit_01]
  generalize mBit n t = b
  cases b <;> decide
theorem not_false_b {b : Bool} (h : ¬ b = false) : b = true := by cases b <;> simp_all
theorem not_true_b {b : Bool} (h : ¬ b = true) : b = false := by cases b <;> simp_all
theorem mBit_test (n t : Nat) : mBit n t = n.testBit t := by
  rw [Nat.testBit_eq_decide_div_mod_eq]
  unfold mBit
  cases q : Nat.beq (n / 2 ^ t % 2) 1 with
  | true => rw [ax_beq q]; rfl
  | false => exact (decide_eq_false (ax_bnq q)).symm
/-- stages that are needed, closed step by step -/
def mPass (A : MS) (a : Nat) : Nat → Nat
  | 0 => a
  | i + 1 => bif mBit (mPass A a i) i then mPass A a i ||| mS A 4 i else mPass A a i
def mTurn (A : MS) (a : Nat) : Nat → Nat
  | 0 => a
  | t + 1 => mPass A (mTurn A a t) (mN A)
theorem mPass_lt {A : MS} (hb : ∀ i, i < mN A → mS A 4 i < 2 ^ 8) {a : Nat} (ha : a < 2 ^ 8) : ∀ i, i ≤ mN A → mPass A a i < 2 ^ 8 := by
  intro i
  induction i with
  | zero => intro _; exact ha
  | succ i ih =>
    intro hi
    have h1 := ih (by omega)
    show (bif mBit (mPass A a i) i then mPass A a i ||| mS A 4 i else mPass A a i) < 2 ^ 8
    cases mBit (mPass A a i) i
    · exact h1
    · exact Nat.or_lt_two_pow h1 (hb i (by omega))
theorem mTurn_lt {A : MS} (hb : ∀ i, i < mN A → mS A 4 i < 2 ^ 8) {a : Nat} (ha : a < 2 ^ 8) : ∀ t, mTurn A a t < 2 ^ 8 := by
  intro t
  induction t with
  | zero => exact ha
  | succ t ih => exact mPass_lt hb ih (mN A) (Nat.le_refl _)
theorem mB_needs {A : MS} (hI : mB A) : ∀ i, i < mN A → mS A 4 i < 2 ^ 8 := fun i hi => Nat.lt_of_lt_of_le (hI.2.1 i hi).2.2.2 (Nat.pow_le_pow_right (by decide) hI.1.1)
section
variable {e0 mo : Nat} {σ : SG} {m : Nat} {M : Nat → Nat} {A : MS} {r k j : Nat}
def oNeeds (A : MS) (x y : Int32) : OC := bif inB x (mN A) && inB y (mN A) then ((0, bI (mBit (mTurn A (mS A 4 x.toNatClampNeg) 8) y.toNatClampNeg)), A) else ((1, 0), A)
/-- few bits -/
theorem bc_small {x n : Nat} (hx : x < 2 ^ n) : ∀ i, ax_bc x i ≤ n := by
  have key : ∀ i, ax_bc x (n + i) = ax_bc x n := by
    intro i
    induction i with
    | zero => rfl
    | succ i ih =>
      show ax_bc x (n + i) + x / 2 ^ (n + i) % 2 = _
      rw [ih, Nat.div_eq_of_lt (Nat.lt_of_lt_of_le hx (Nat.pow_le_pow_right (by decide) (Nat.le_add_right _ _))), Nat.zero_mod, Nat.add_zero]
  intro i
  rcases Nat.le_total i n with q | q
  · exact Nat.le_trans (ax_bc_le x i) q
  · rw [show i = n + (i - n) by omega, key]
    exact ax_bc_le x n
theorem mB_jobs (hI : mB A) (hk : k < mN A) : k < 8 ∧ mS A 3 k < 2 ^ 16 ∧ ax_bc (mS A 3 k) 16 ≤ mS A 1 k * mS A 2 k ∧ mS A 1 k * mS A 2 k ≤ 16 := by
  have hN := hI.1.1
  obtain ⟨⟨a1, a2⟩, ⟨b1, b2⟩, c, -⟩ := hI.2.1 k hk
  have h16 : mS A 1 k * mS A 2 k ≤ 16 := Nat.mul_le_mul a2 b2
  exact ⟨by omega, Nat.lt_of_lt_of_le c (Nat.pow_le_pow_right (by decide) h16), bc_small c 16, h16⟩
def mJobs (A : MS) (k : Nat) : Nat := mS A 1 k * mS A 2 k - ax_bc (mS A 3 k) 16
def oJobs (A : MS) (x : Int32) : OC := bif inB x (mN A) then ((0, nI (mJobs A x.toNatClampNeg)), A) else ((1, 0), A)
/-- the marks of a run's stages, and what they need, small -/
def mPB (A : MS) : Prop := ∀ r k, r < mR A → k < mU A 16 r → mP A 4 r k < 2 ^ mU A 16 r ∧ mP A 7 r k ≤ 1 ∧ mP A 8 r k ≤ 1 ∧ mP A 9 r k ≤ 1 ∧ mP A 5 r k ≤ 2 ∧ mP A 6 r k ≤ 3
/-- runs that go on have the stages as they are -/
def mNow (A : MS) : Prop := ∀ r, r < mR A → mG A r → mU A 16 r = mN A ∧ ∀ k f, k < mU A 16 r → 1 ≤ f → f ≤ 9 → mP A f r k = mS A f k
theorem mGoods_lt (A : MS) (r : Nat) : ∀ n, mGoods A r n < 2 ^ n := by
  intro n
  induction n with
  | zero => exact Nat.one_pos
  | succ n ih =>
    show mGoods A r n + (if mWell A r n then 2 ^ n else 0) < 2 ^ (n + 1)
    rw [Nat.pow_succ]
    split <;> omega
theorem bit_add {x n t : Nat} (ht : t < n) : mBit (x + 2 ^ n) t = mBit x t := by
  unfold mBit
  obtain ⟨d, rfl⟩ : ∃ d, n = t + (d + 1) := ⟨n - t - 1, by omega⟩
  have e : (x + 2 ^ (t + (d + 1))) / 2 ^ t % 2 = x / 2 ^ t % 2 := by
    rw [Nat.pow_add, Nat.add_mul_div_left _ _ (Nat.two_pow_pos t), Nat.pow_succ]
    omega
  rw [e]
theorem bit_top {x n : Nat} (hx : x < 2 ^ n) : mBit (x + 2 ^ n) n = true := by
  unfold mBit
  have e : (x + 2 ^ n) / 2 ^ n % 2 = 1 := by
    rw [Nat.add_div_right _ (Nat.two_pow_pos n), Nat.div_eq_of_lt hx]
  rw [e]; rfl
theorem bit_high {x n : Nat} (hx : x < 2 ^ n) {t : Nat} (ht : n ≤ t) : mBit x t = false := by
  unfold mBit
  rw [Nat.div_eq_of_lt (Nat.lt_of_lt_of_le hx (Nat.pow_le_pow_right (by decide) ht))]
  rfl
theorem mGoods_bit (A : MS) (r : Nat) : ∀ n t, t < n → mBit (mGoods A r n) t = mWell A r t := by
  intro n
  induction n with
  | zero => intro t ht; exact absurd ht (Nat.not_lt_zero t)
  | succ n ih =>
    intro t ht
    show mBit (mGoods A r n + (if mWell A r n then 2 ^ n else 0)) t = _
    rcases Nat.lt_succ_iff_lt_or_eq.mp ht with q | q
    · split
      · rw [bit_add q]; exact ih t q
      · exact ih t q
    · subst q
      cases w : mWell A r t with
      | true => exact bit_top (mGoods_lt A r t)
      | false => exact bit_high (mGoods_lt A r t) (Nat.le_refl _)
def oIsGood (A : MS) (x y : Int32) : OC := bif stgB A x y then ((0, bI (mWell A x.toNatClampNeg y.toNatClampNeg)), A) else ((1, 0), A)
theorem mGb_iff : mGb A r = true ↔ mG A r := by
  unfold mGb mG
  rw [Bool.or_eq_true, Nat.beq_eq, Nat.beq_eq]
theorem mWellN_eq (hN : mNow A) (hr : r < mR A) (hG : mG A r) (hk : k < mU A 16 r) : mWellN A r k = mWell A r k := by
  unfold mWellN mWell
  rw [(hN r hr hG).2 k 8 hk (by decide) (by decide)]
/-- the queue is no longer than its row, its places are jobs' -/
def mQB (A : MS) : Prop := (mQ A).length ≤ 800 ∧ ∀ p, p ∈ mQ A → p < 10240
theorem mQ_at {i : Nat} (hi : i < (mQ A).length) : (mQ A).getD i 0 ∈ mQ A := by
  rw [List.getD_eq_getElem?_getD, List.getElem?_eq_getElem hi]
  exact List.getElem_mem hi
def oQRun (A : MS) (x : Int32) : OC := bif inB x (mQ A).length then ((0, nI (pR ((mQ A).getD x.toNatClampNeg 0))), A) else ((1, 0), A)
def oQStage (A : MS) (x : Int32) : OC := bif inB x (mQ A).length then ((0, nI (pK ((mQ A).getD x.toNatClampNeg 0))), A) else ((1, 0), A)
/-- what a worker has -/
def mWB (A : MS) : Prop := ∀ w, mW A w ≤ 10240
def oWRun (A : MS) (x : Int32) : OC := bif inB x 4 then ((0, bif Nat.beq (mW A x.toNatClampNeg) 0 then -1 else nI (pR (mW A x.toNatClampNeg - 1))), A) else ((1, 0), A)
def oWStage (A : MS) (x : Int32) : OC := bif inB x 4 then ((0, bif Nat.beq (mW A x.toNatClampNeg) 0 then -1 else nI (pK (mW A x.toNatClampNeg - 1))), A) else ((1, 0), A)
theorem nI_m1 {n : Nat} (hn : n < 2 ^ 31) : nI n - 1 = -1 ↔ n = 0 := by
  rcases Nat.eq_zero_or_pos n with q | q
  · subst q; exact ⟨fun _ => rfl, fun _ => by decide⟩
  · refine ⟨fun h => ?_, fun h => by omega⟩
    rw [show nI n - 1 = nI (n - 1) from pk_sub (a := n) (b := 1) q] at h
    exact absurd (show nI (n - 1) < 0 by rw [h]; decide) (nI_pos (by omega))
theorem nI_p1 {n : Nat} (h : n ≠ 0) : nI n - 1 = nI (n - 1) := pk_sub (a := n) (b := 1) (by omega)
/-- the cache entries -/
def mEB (A : MS) : Prop := (mE A).length ≤ 10 ∧ ∀ e, e ∈ mE A → e.1 < mN A ∧ 1 ≤ mS A 6 e.1 ∧ mS A 6 e.1 ≤ 3 ∧ e.2 < mPow (mS A 6 e.1)
theorem mE_at {i : Nat} (hi : i < (mE A).length) : (mE A).getD i (0, 0) ∈ mE A := by
  rw [List.getD_eq_getElem?_getD, List.getElem?_eq_getElem hi]
  exact List.getElem_mem hi
theorem mPow_le (n : Nat) : 1 ≤ mPow n ∧ mPow n ≤ 1000000 := by
  unfold mPow
  split <;> decide
abbrev mCe (e : Nat × Nat) : Nat := 10 * e.2 + e.1
def oEStage (A : MS) (x : Int32) : OC := bif inB x (mE A).length then ((0, nI ((mE A).getD x.toNatClampNeg (0, 0)).1), A) else ((1, 0), A)
def mInOf (A : MS) (e : Nat × Nat) (j : Nat) : Int32 := bif Nat.blt j (mS A 6 e.1) then nI (e.2 / mPow (mS A 6 e.1 - 1 - j) % 100) else -1
def oEInput (A : MS) (x y : Int32) : OC := bif inB x (mE A).length && inB y 3 then ((0, mInOf A ((mE A).getD x.toNatClampNeg (0, 0)) y.toNatClampNeg), A) else ((1, 0), A)
theorem mE_bd (hE : mEB A) (hI : mB A) {e : Nat × Nat} (he : e ∈ mE A) : e.1 < 8 ∧ e.2 < 1000000 ∧ mCe e < 2 ^ 30 ∧ mCe e % 10 = e.1 ∧ mCe e / 10 = e.2 := by
  have hN := hI.1.1
  obtain ⟨h1, h2, h3, h4⟩ := hE.2 e he
  have h5 := mPow_le (mS A 6 e.1)
  show _ ∧ _ ∧ 10 * e.2 + e.1 < _ ∧ (10 * e.2 + e.1) % 10 = _ ∧ (10 * e.2 + e.1) / 10 = _
  omega
end
end AXML
