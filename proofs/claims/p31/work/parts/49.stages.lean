/-! The reference's calls that write stages. -/
section AXMW
/-- there are always jobs -/
def mJ1 (A : MS) : Prop := ∀ k, k < mN A → 1 ≤ mJobs A k
theorem no_go {A : MS} (h : mGo A = 0) {r : Nat} (hr : r < mR A) : ¬ mG A r := fun z => by
  have := ax_n_zero.mp h r hr
  rw [mGb_iff.mpr z] at this
  cases this
/-- stages change while no run goes on -/
theorem mJJ_stage {A A1 : MS} (h : mJJ A) (h0 : mGo A = 0) (hA : ∀ f r k j, 10 ≤ f → A1.1 f r k j = A.1 f r k j) (hQ : mQ A1 = mQ A) (hB : mB A1) (hE : mEB A1) : mJJ A1 := by
  obtain ⟨⟨hB0, hP, hN⟩, hGo, hQI, hW, hJ, -, h60⟩ := h
  have eR : mR A1 = mR A := hA 10 0 0 0 (by decide)
  have eU : ∀ f r, 10 ≤ f → mU A1 f r = mU A f r := fun f r a => hA f r 0 0 a
  have eG : ∀ r, mG A1 r ↔ mG A r := fun r => by unfold mG; rw [eU 11 r (by decide)]
  have eJ : ∀ f r k j, mJ A1 f r k j = mJ A f r k j := fun f r k j => hA (40 + f) r k j (by omega)
  have eW : ∀ w, mW A1 w = mW A w := fun w => hA 50 w 0 0 (by decide)
  refine ⟨⟨hB, fun r k hr hk => ?_, fun r hr hg => ?_⟩, ?_, ⟨by rw [hQ]; exact hQI.1, fun p hp => ?_⟩, ⟨fun w hw => ?_, fun w v h1 h2 => ?_, fun w p h1 => ?_⟩, ⟨fun r k j hr hk => ?_, fun r k j hr h8 hj => ?_, fun r k j j' hr h1 h2 h3 => ?_⟩, hE, (hA 60 0 0 0 (by decide)).trans h60⟩
  · rw [eR] at hr
    rw [eU 16 r (by decide)] at hk ⊢
    rw [show mP A1 4 r k = mP A 4 r k from hA 24 r k 0 (by decide), show mP A1 5 r k = mP A 5 r k from hA 25 r k 0 (by decide), show mP A1 6 r k = mP A 6 r k from hA 26 r k 0 (by decide), show mP A1 7 r k = mP A 7 r k from hA 27 r k 0 (by decide), show mP A1 8 r k = mP A 8 r k from hA 28 r k 0 (by decide), show mP A1 9 r k = mP A 9 r k from hA 29 r k 0 (by decide)]
    exact hP r k hr hk
  · rw [eR] at hr
    exact absurd ((eG r).mp hg) (no_go h0 hr)
  · rw [mGo_cong eR (fun r _ => by unfold mGb; rw [eU 11 r (by decide)])]
    exact hGo
  · rw [hQ] at hp
    obtain ⟨g1, g2, g3⟩ := hQI.2 p hp
    exact absurd g2 (no_go h0 g1)
  · rw [eW]; exact hW.1 w hw
  · rw [eW] at h1 h2
    rw [eW] at h2
    exact hW.2.1 w v h1 h2
  · rw [eW] at h1
    obtain ⟨g1, g2, g3⟩ := hW.2.2 w p h1
    exact absurd g2 (no_go h0 g1)
  · rw [eR] at hr
    rw [eU 16 r (by decide)] at hk
    rw [eJ]; exact hJ.1 r k j hr hk
  · rw [eR] at hr
    rw [eU 11 r (by decide)] at h8
    rw [eJ]; exact hJ.2.1 r k j hr h8 hj
  · rw [eR] at hr
    rw [eJ] at h3
    rw [eJ]; exact hJ.2.2 r k j j' hr h1 h2 h3
abbrev in14 (x : Int32) : Bool := decide ((1 : Int32) ≤ x ∧ x ≤ 4)
theorem in14_yes {x : Int32} (h : in14 x = true) : ∃ n, 1 ≤ n ∧ n ≤ 4 ∧ x = nI n := by
  have h1 : (1 : Int32) ≤ x ∧ x ≤ 4 := of_decide_eq_true h
  rcases pk_ix x (n := 5) (by decide) with q | q | ⟨j, hj, rfl⟩
  · exact absurd (Int32.le_trans h1.1 (Int32.le_of_lt q)) (by decide)
  · exact absurd (Int32.le_trans q h1.2) (by decide)
  · refine ⟨j, ?_, by omega, rfl⟩
    rcases Nat.eq_zero_or_pos j with z | z
    · subst z; exact absurd h1.1 (by decide)
    · exact z
/-- a stage more -/
def mAddS (A : MS) (a b : Nat) : MS := mUp (mUp (mUp (mUp A 1 (mN A) 0 0 a) 2 (mN A) 0 0 b) 9 (mN A) 0 0 1) 0 0 0 0 (mN A + 1)
def oAddStage (A : MS) (x y : Int32) : OC := bif in14 x && in14 y then (bif Nat.beq (mGo A) 0 && Nat.blt (mN A) 8 then ((0, nI (mN A)), mAddS A x.toNatClampNeg y.toNatClampNeg) else ((2, 0), A)) else ((1, 0), A)
def mNeed (A : MS) (k o : Nat) : MS := mUp A 4 k 0 0 (mS A 4 k ||| 2 ^ o)
def needB (A : MS) (k o : Nat) : Bool := Nat.beq (mGo A) 0 && !(Nat.beq k o) && !(mBit (mS A 4 k) o) && !(mBit (mTurn A (mS A 4 o) 8) k)
def oNeed (A : MS) (x y : Int32) : OC := bif inB x (mN A) && inB y (mN A) then (bif needB A x.toNatClampNeg y.toNatClampNeg then ((0, nI (ax_bc (mS A 4 x.toNatClampNeg ||| 2 ^ y.toNatClampNeg) 16)), mNeed A x.toNatClampNeg y.toNatClampNeg) else ((2, 0), A)) else ((1, 0), A)
def mExc (A : MS) (k j : Nat) : MS := mUp A 3 k 0 0 (mS A 3 k ||| 2 ^ j)
def excB (A : MS) (k j : Nat) : Bool := Nat.beq (mGo A) 0 && !(mBit (mS A 3 k) j) && Nat.blt 1 (mJobs A k)
def oExclude (A : MS) (x y z : Int32) : OC := bif inB x (mN A) && inB y (mS A 1 x.toNatClampNeg) && inB z (mS A 2 x.toNatClampNeg) then (bif excB A x.toNatClampNeg (y.toNatClampNeg * mS A 2 x.toNatClampNeg + z.toNatClampNeg) then ((0, nI (mJobs (mExc A x.toNatClampNeg (y.toNatClampNeg * mS A 2 x.toNatClampNeg + z.toNatClampNeg)) x.toNatClampNeg)), mExc A x.toNatClampNeg (y.toNatClampNeg * mS A 2 x.toNatClampNeg + z.toNatClampNeg)) else ((2, 0), A)) else ((1, 0), A)
def mDrop (A : MS) (k : Nat) : List (Nat × Nat) := (mE A).filter fun e => !(Nat.beq e.1 k)
def mSetS (A : MS) (k y z : Nat) : MS := ((mUp (mUp A 5 k 0 0 y) 6 k 0 0 z).1, mQ A, bif Nat.beq z (mS A 6 k) then mE A else mDrop A k)
abbrev in02 (x : Int32) : Bool := decide ((0 : Int32) ≤ x ∧ x ≤ 2)
abbrev in03 (x : Int32) : Bool := decide ((0 : Int32) ≤ x ∧ x ≤ 3)
def oSetStage (A : MS) (x y z : Int32) : OC := bif inB x (mN A) then (bif in02 y && in03 z then (bif Nat.beq (mGo A) 0 then ((0, nI ((mE A).length - (mE (mSetS A x.toNatClampNeg y.toNatClampNeg z.toNatClampNeg)).length)), mSetS A x.toNatClampNeg y.toNatClampNeg z.toNatClampNeg) else ((3, 0), A)) else ((2, 0), A)) else ((1, 0), A)
def b01 (b : Bool) : Nat := bif b then 1 else 0
theorem bI_nI (b : Bool) : bI b = nI (b01 b) := by cases b <;> rfl
theorem b01_le (b : Bool) : b01 b ≤ 1 := by cases b <;> decide
def mSetM (A : MS) (k : Nat) (f c i : Bool) : MS := mUp (mUp (mUp A 7 k 0 0 (b01 f)) 8 k 0 0 (b01 c)) 9 k 0 0 (b01 i)
def oSetMarks (A : MS) (x : Int32) (f c i : Bool) : OC := bif inB x (mN A) then (bif Nat.beq (mGo A) 0 then ((0, 0), mSetM A x.toNatClampNeg f c i) else ((2, 0), A)) else ((1, 0), A)
theorem bc_or (x j : Nat) : ∀ n, ax_bc (x ||| 2 ^ j) n ≤ ax_bc x n + (if j < n then 1 else 0) := by
  intro n
  induction n with
  | zero => exact Nat.zero_le _
  | succ n ih =>
    show ax_bc (x ||| 2 ^ j) n + (x ||| 2 ^ j) / 2 ^ n % 2 ≤ ax_bc x n + x / 2 ^ n % 2 + _
    rw [mBit_01, mBit_01, mBit_test, mBit_test, Nat.testBit_or, Nat.testBit_two_pow]
    by_cases z : j = n
    · subst z
      rw [if_neg (Nat.lt_irrefl _)] at ih
      rw [if_pos (Nat.lt_succ_self _)]
      cases x.testBit j <;> simp <;> omega
    · rw [decide_eq_false z, Bool.or_false]
      by_cases y : j < n
      · rw [if_pos y] at ih
        rw [if_pos (show j < n + 1 by omega)]
        omega
      · rw [if_neg y] at ih
        rw [if_neg (show ¬ j < n + 1 by omega)]
        omega
section
variable {A : MS} {k : Nat}
theorem mB_stage {A A1 : MS} (h : mB A) (hA : ∀ f r k j, 10 ≤ f → A1.1 f r k j = A.1 f r k j) (hN : mN A ≤ mN A1 ∧ mN A1 ≤ 8) (h1 : ∀ k, k < mN A1 → (1 ≤ mS A1 1 k ∧ mS A1 1 k ≤ 4) ∧ (1 ≤ mS A1 2 k ∧ mS A1 2 k ≤ 4) ∧ mS A1 3 k < 2 ^ (mS A1 1 k * mS A1 2 k) ∧ mS A1 4 k < 2 ^ mN A1) (h2 : ∀ k, mS A1 5 k ≤ 2 ∧ mS A1 6 k ≤ 3 ∧ mS A1 7 k ≤ 1 ∧ mS A1 8 k ≤ 1 ∧ mS A1 9 k ≤ 1) (h3 : ∀ k f, mN A1 ≤ k → 1 ≤ f → f ≤ 9 → mS A1 f k = 0) : mB A1 := by
  obtain ⟨⟨g1, g2⟩, -, -, -, g5, g6⟩ := h
  have eR : mR A1 = mR A := hA 10 0 0 0 (by decide)
  have eU : ∀ f r, 10 ≤ f → mU A1 f r = mU A f r := fun f r a => hA f r 0 0 a
  refine ⟨⟨hN.2, by rw [eR]; exact g2⟩, h1, h2, h3, fun r hr => ?_, fun r k j hr => ?_⟩
  · rw [eR] at hr
    rw [eU 11 r (by decide), eU 12 r (by decide), eU 13 r (by decide), eU 14 r (by decide), eU 15 r (by decide), eU 16 r (by decide)]
    obtain ⟨q1, q2, q3, q4, q5, q6, q7⟩ := g5 r hr
    exact ⟨q1, q2, q3, q4, q5, q6, Nat.le_trans q7 hN.1⟩
  · rw [eR] at hr
    rw [show mJ A1 0 r k j = mJ A 0 r k j from hA 40 r k j (by decide), show mJ A1 2 r k j = mJ A 2 r k j from hA 42 r k j (by decide), show mJ A1 3 r k j = mJ A 3 r k j from hA 43 r k j (by decide)]
    exact g6 r k j hr
theorem mS_up (A : MS) (f x v f' k : Nat) : mS (mUp A f x 0 0 v) f' k = if f' = f ∧ k = x then v else mS A f' k := by
  show (if f' = f ∧ k = x ∧ 0 = 0 ∧ 0 = 0 then v else A.1 f' k 0 0) = _
  simp
theorem up_hi {A : MS} {f x v : Nat} (hf : f < 10) : ∀ f' r k j, 10 ≤ f' → (mUp A f x 0 0 v).1 f' r k j = A.1 f' r k j := fun f' r k j a => mUp_f A (by omega) r k j
theorem mJJ_add (h : mJJ A) (h0 : mGo A = 0) (hN : mN A < 8) {a b : Nat} (ha : 1 ≤ a ∧ a ≤ 4) (hb : 1 ≤ b ∧ b ≤ 4) : mJJ (mAddS A a b) := by
  have hB := h.1.1
  have hE := h.2.2.2.2.2.1
  have hi : ∀ f r k j, 10 ≤ f → (mAddS A a b).1 f r k j = A.1 f r k j := fun f r k j z => (up_hi (by decide) f r k j z).trans ((up_hi (by decide) f r k j z).trans ((up_hi (by decide) f r k j z).trans (up_hi (by decide) f r k j z)))
  have eN : mN (mAddS A a b) = mN A + 1 := mUp_at _ 0 0 0 0 _
  have eS : ∀ f k, f ≠ 0 → mS (mAddS A a b) f k = if k = mN A then (if f = 1 then a else if f = 2 then b else if f = 9 then 1 else mS A f k) else mS A f k := fun f k z => by
    unfold mAddS
    rw [mS_up, mS_up, mS_up, mS_up, if_neg (fun y => z y.1)]
    by_cases q : k = mN A
    · rw [if_pos q]
      by_cases q1 : f = 1
      · subst q1; simp [q]
      · by_cases q2 : f = 2
        · subst q2; simp [q]
        · by_cases q9 : f = 9
          · subst q9; simp [q]
          · simp [q1, q2, q9]
    · rw [if_neg q]
      simp [q]
  refine mJJ_stage h h0 hi rfl (mB_stage hB hi ⟨by omega, by omega⟩ (fun k hk => ?_) (fun k => ?_) (fun k f hk a1 a2 => ?_)) ⟨hE.1, fun e he => ?_⟩
  · rw [eN] at hk ⊢
    rw [eS 1 k (by decide), eS 2 k (by decide), eS 3 k (by decide), eS 4 k (by decide)]
    by_cases q : k = mN A
    · have z3 := hB.2.2.2.1 k 3 (by omega) (by decide) (by decide)
      have z4 := hB.2.2.2.1 k 4 (by omega) (by decide) (by decide)
      rw [if_pos q, if_pos q, if_pos q, if_pos q]
      show (1 ≤ a ∧ a ≤ 4) ∧ (1 ≤ b ∧ b ≤ 4) ∧ mS A 3 k < 2 ^ (a * b) ∧ mS A 4 k < 2 ^ (mN A + 1)
      rw [z3, z4]
      exact ⟨ha, hb, Nat.two_pow_pos _, Nat.two_pow_pos _⟩
    · rw [if_neg q, if_neg q, if_neg q, if_neg q]
      obtain ⟨c1, c2, c3, c4⟩ := hB.2.1 k (by omega)
      exact ⟨c1, c2, c3, Nat.lt_trans c4 (Nat.pow_lt_pow_right (by decide) (Nat.lt_succ_self _))⟩
  · rw [eS 5 k (by decide), eS 6 k (by decide), eS 7 k (by decide), eS 8 k (by decide), eS 9 k (by decide)]
    obtain ⟨c1, c2, c3, c4, c5⟩ := hB.2.2.1 k
    by_cases q : k = mN A
    · rw [if_pos q, if_pos q, if_pos q, if_pos q, if_pos q]
      exact ⟨c1, c2, c3, c4, Nat.le_refl 1⟩
    · rw [if_neg q, if_neg q, if_neg q, if_neg q, if_neg q]
      exact ⟨c1, c2, c3, c4, c5⟩
  · rw [eN] at hk
    rw [eS f k (by omega), if_neg (by omega)]
    exact hB.2.2.2.1 k f (by omega) a1 a2
  · obtain ⟨c1, c2, c3, c4⟩ := hE.2 e he
    rw [eN, eS 6 e.1 (by decide), if_neg (by omega)]
    exact ⟨by omega, c2, c3, c4⟩
theorem mJ1_add (h : mJ1 A) (hB : mB A) {a b : Nat} (ha : 1 ≤ a) (hb : 1 ≤ b) : mJ1 (mAddS A a b) := by
  intro k hk
  have eN : mN (mAddS A a b) = mN A + 1 := mUp_at _ 0 0 0 0 _
  rw [eN] at hk
  unfold mJobs
  rw [show mS (mAddS A a b) 1 k = if k = mN A then a else mS A 1 k by unfold mAddS; rw [mS_up, mS_up, mS_up, mS_up]; simp, show mS (mAddS A a b) 2 k = if k = mN A then b else mS A 2 k by unfold mAddS; rw [mS_up, mS_up, mS_up, mS_up]; simp, show mS (mAddS A a b) 3 k = mS A 3 k by unfold mAddS; rw [mS_up, mS_up, mS_up, mS_up]; simp]
  by_cases q : k = mN A
  · rw [if_pos q, if_pos q, hB.2.2.2.1 k 3 (by omega) (by decide) (by decide)]
    have := Nat.mul_le_mul ha hb
    show 1 ≤ a * b - 0
    omega
  · rw [if_neg q, if_neg q]
    exact h k (by omega)
theorem mJJ_need (h : mJJ A) (h0 : mGo A = 0) {o : Nat} (hk : k < mN A) (ho : o < mN A) : mJJ (mNeed A k o) := by
  have hB := h.1.1
  have hi : ∀ f r k' j, 10 ≤ f → (mNeed A k o).1 f r k' j = A.1 f r k' j := up_hi (by decide)
  have eS : ∀ f k', f ≠ 4 → mS (mNeed A k o) f k' = mS A f k' := fun f k' z => by unfold mNeed; rw [mS_up, if_neg (fun y => z y.1)]
  have e4 : ∀ k', mS (mNeed A k o) 4 k' = if k' = k then mS A 4 k ||| 2 ^ o else mS A 4 k' := fun k' => by unfold mNeed; rw [mS_up]; simp
  have eN : mN (mNeed A k o) = mN A := mUp_f A (by decide) 0 0 0
  refine mJJ_stage h h0 hi rfl (mB_stage hB hi ⟨by omega, by rw [eN]; exact hB.1.1⟩ (fun k' hk' => ?_) (fun k' => ?_) (fun k' f hk' a1 a2 => ?_)) ?_
  · rw [eN] at hk' ⊢
    rw [eS 1 k' (by decide), eS 2 k' (by decide), eS 3 k' (by decide), e4]
    obtain ⟨c1, c2, c3, c4⟩ := hB.2.1 k' hk'
    refine ⟨c1, c2, c3, ?_⟩
    split
    · exact Nat.or_lt_two_pow (hB.2.1 k hk).2.2.2 (Nat.pow_lt_pow_right (by decide) ho)
    · exact c4
  · rw [eS 5 k' (by decide), eS 6 k' (by decide), eS 7 k' (by decide), eS 8 k' (by decide), eS 9 k' (by decide)]
    exact hB.2.2.1 k'
  · rw [eN] at hk'
    by_cases z : f = 4
    · subst z
      rw [e4, if_neg (by omega)]
      exact hB.2.2.2.1 k' 4 hk' a1 a2
    · rw [eS f k' z]; exact hB.2.2.2.1 k' f hk' a1 a2
  · refine ⟨h.2.2.2.2.2.1.1, fun e he => ?_⟩
    rw [eN, eS 6 e.1 (by decide)]
    exact h.2.2.2.2.2.1.2 e he
theorem mJJ_exc (h : mJJ A) (h0 : mGo A = 0) {j : Nat} (hk : k < mN A) (hj : j < mS A 1 k * mS A 2 k) : mJJ (mExc A k j) := by
  have hB := h.1.1
  have hi : ∀ f r k' j', 10 ≤ f → (mExc A k j).1 f r k' j' = A.1 f r k' j' := up_hi (by decide)
  have eS : ∀ f k', f ≠ 3 → mS (mExc A k j) f k' = mS A f k' := fun f k' z => by unfold mExc; rw [mS_up, if_neg (fun y => z y.1)]
  have e3 : ∀ k', mS (mExc A k j) 3 k' = if k' = k then mS A 3 k ||| 2 ^ j else mS A 3 k' := fun k' => by unfold mExc; rw [mS_up]; simp
  have eN : mN (mExc A k j) = mN A := mUp_f A (by decide) 0 0 0
  refine mJJ_stage h h0 hi rfl (mB_stage hB hi ⟨by omega, by rw [eN]; exact hB.1.1⟩ (fun k' hk' => ?_) (fun k' => ?_) (fun k' f hk' a1 a2 => ?_)) ?_
  · rw [eN] at hk' ⊢
    rw [eS 1 k' (by decide), eS 2 k' (by decide), eS 4 k' (by decide), e3]
    obtain ⟨c1, c2, c3, c4⟩ := hB.2.1 k' hk'
    refine ⟨c1, c2, ?_, c4⟩
    split
    · rename_i z
      rw [z]
      exact Nat.or_lt_two_pow (hB.2.1 k hk).2.2.1 (Nat.pow_lt_pow_right (by decide) hj)
    · exact c3
  · rw [eS 5 k' (by decide), eS 6 k' (by decide), eS 7 k' (by decide), eS 8 k' (by decide), eS 9 k' (by decide)]
    exact hB.2.2.1 k'
  · rw [eN] at hk'
    by_cases z : f = 3
    · subst z
      rw [e3, if_neg (by omega)]
      exact hB.2.2.2.1 k' 3 hk' a1 a2
    · rw [eS f k' z]; exact hB.2.2.2.1 k' f hk' a1 a2
  · refine ⟨h.2.2.2.2.2.1.1, fun e he => ?_⟩
    rw [eN, eS 6 e.1 (by decide)]
    exact h.2.2.2.2.2.1.2 e he
theorem mJ1_exc (h : mJ1 A) {j : Nat} (hk : k < mN A) (h1 : 1 < mJobs A k) : mJ1 (mExc A k j) := by
  intro k' hk'
  have hk' : k' < mN A := hk'
  unfold mJobs
  rw [show mS (mExc A k j) 1 k' = mS A 1 k' by unfold mExc; rw [mS_up]; simp, show mS (mExc A k j) 2 k' = mS A 2 k' by unfold mExc; rw [mS_up]; simp, show mS (mExc A k j) 3 k' = if k' = k then mS A 3 k ||| 2 ^ j else mS A 3 k' by unfold mExc; rw [mS_up]; simp]
  by_cases z : k' = k
  · rw [if_pos z]
    have hb := bc_or (mS A 3 k) j 16
    have hb : ax_bc (mS A 3 k ||| 2 ^ j) 16 ≤ ax_bc (mS A 3 k) 16 + 1 := Nat.le_trans hb (by split <;> omega)
    unfold mJobs at h1
    rw [z]
    omega
  · rw [if_neg z]; exact h k' hk'
theorem mJJ_setS (h : mJJ A) (h0 : mGo A = 0) {y z : Nat} (hk : k < mN A) (hy : y ≤ 2) (hz : z ≤ 3) : mJJ (mSetS A k y z) := by
  have hB := h.1.1
  have hE := h.2.2.2.2.2.1
  have hi : ∀ f r k' j', 10 ≤ f → (mSetS A k y z).1 f r k' j' = A.1 f r k' j' := fun f r k' j' a => (up_hi (by decide) f r k' j' a).trans (up_hi (by decide) f r k' j' a)
  have eS : ∀ f k', f ≠ 5 → f ≠ 6 → mS (mSetS A k y z) f k' = mS A f k' := fun f k' a b => by
    show mS (mUp (mUp A 5 k 0 0 y) 6 k 0 0 z) f k' = _
    rw [mS_up, mS_up, if_neg (fun w => b w.1), if_neg (fun w => a w.1)]
  have e5 : ∀ k', mS (mSetS A k y z) 5 k' = if k' = k then y else mS A 5 k' := fun k' => by
    show mS (mUp (mUp A 5 k 0 0 y) 6 k 0 0 z) 5 k' = _
    rw [mS_up, mS_up]; simp
  have e6 : ∀ k', mS (mSetS A k y z) 6 k' = if k' = k then z else mS A 6 k' := fun k' => by
    show mS (mUp (mUp A 5 k 0 0 y) 6 k 0 0 z) 6 k' = _
    rw [mS_up, mS_up]; simp
  have eN : mN (mSetS A k y z) = mN A := rfl
  refine mJJ_stage h h0 hi rfl (mB_stage hB hi ⟨by omega, by rw [eN]; exact hB.1.1⟩ (fun k' hk' => ?_) (fun k' => ?_) (fun k' f hk' a1 a2 => ?_)) ?_
  · rw [eN] at hk' ⊢
    rw [eS 1 k' (by decide) (by decide), eS 2 k' (by decide) (by decide), eS 3 k' (by decide) (by decide), eS 4 k' (by decide) (by decide)]
    exact hB.2.1 k' hk'
  · rw [e5, e6, eS 7 k' (by decide) (by decide), eS 8 k' (by decide) (by decide), eS 9 k' (by decide) (by decide)]
    obtain ⟨c1, c2, c3, c4, c5⟩ := hB.2.2.1 k'
    refine ⟨?_, ?_, c3, c4, c5⟩
    · split
      · exact hy
      · exact c1
    · split
      · exact hz
      · exact c2
  · rw [eN] at hk'
    by_cases w : f = 5
    · subst w
      rw [e5, if_neg (by omega)]
      exact hB.2.2.2.1 k' 5 hk' a1 a2
    · by_cases w2 : f = 6
      · subst w2
        rw [e6, if_neg (by omega)]
        exact hB.2.2.2.1 k' 6 hk' a1 a2
      · rw [eS f k' w w2]; exact hB.2.2.2.1 k' f hk' a1 a2
  · show (bif Nat.beq z (mS A 6 k) then mE A else mDrop A k).length ≤ 10 ∧ ∀ e, e ∈ (bif Nat.beq z (mS A 6 k) then mE A else mDrop A k) → e.1 < mN (mSetS A k y z) ∧ 1 ≤ mS (mSetS A k y z) 6 e.1 ∧ mS (mSetS A k y z) 6 e.1 ≤ 3 ∧ e.2 < mPow (mS (mSetS A k y z) 6 e.1)
    rw [eN]
    cases q : Nat.beq z (mS A 6 k) with
    | true =>
      refine ⟨hE.1, fun e he => ?_⟩
      have : mS (mSetS A k y z) 6 e.1 = mS A 6 e.1 := by
        rw [e6]
        split
        · rename_i w; rw [w, ax_beq q]
        · rfl
      rw [this]
      exact hE.2 e he
    | false =>
      refine ⟨Nat.le_trans (List.length_filter_le _ _) hE.1, fun e he => ?_⟩
      have he : e ∈ (mE A).filter fun e => !(Nat.beq e.1 k) := he
      rw [List.mem_filter] at he
      have hne : e.1 ≠ k := fun w => by rw [w, Nat.beq_refl] at he; exact absurd he.2 (by decide)
      rw [e6, if_neg hne]
      exact hE.2 e he.1
theorem mJJ_setM (h : mJJ A) (h0 : mGo A = 0) (hk : k < mN A) (f c i : Bool) : mJJ (mSetM A k f c i) := by
  have hB := h.1.1
  have hi : ∀ g r k' j', 10 ≤ g → (mSetM A k f c i).1 g r k' j' = A.1 g r k' j' := fun g r k' j' a => (up_hi (by decide) g r k' j' a).trans ((up_hi (by decide) g r k' j' a).trans (up_hi (by decide) g r k' j' a))
  have eS : ∀ g k', g ≠ 7 → g ≠ 8 → g ≠ 9 → mS (mSetM A k f c i) g k' = mS A g k' := fun g k' a b d => by
    unfold mSetM
    rw [mS_up, mS_up, mS_up, if_neg (fun w => d w.1), if_neg (fun w => b w.1), if_neg (fun w => a w.1)]
  have e7 : ∀ k', mS (mSetM A k f c i) 7 k' = if k' = k then b01 f else mS A 7 k' := fun k' => by unfold mSetM; rw [mS_up, mS_up, mS_up]; simp
  have e8 : ∀ k', mS (mSetM A k f c i) 8 k' = if k' = k then b01 c else mS A 8 k' := fun k' => by unfold mSetM; rw [mS_up, mS_up, mS_up]; simp
  have e9 : ∀ k', mS (mSetM A k f c i) 9 k' = if k' = k then b01 i else mS A 9 k' := fun k' => by unfold mSetM; rw [mS_up, mS_up, mS_up]; simp
  have eN : mN (mSetM A k f c i) = mN A := (mUp_f _ (by decide) 0 0 0).trans ((mUp_f _ (by decide) 0 0 0).trans (mUp_f A (by decide) 0 0 0))
  refine mJJ_stage h h0 hi rfl (mB_stage hB hi ⟨by omega, by rw [eN]; exact hB.1.1⟩ (fun k' hk' => ?_) (fun k' => ?_) (fun k' g hk' a1 a2 => ?_)) ?_
  · rw [eN] at hk' ⊢
    rw [eS 1 k' (by decide) (by decide) (by decide), eS 2 k' (by decide) (by decide) (by decide), eS 3 k' (by decide) (by decide) (by decide), eS 4 k' (by decide) (by decide) (by decide)]
    exact hB.2.1 k' hk'
  · rw [eS 5 k' (by decide) (by decide) (by decide), eS 6 k' (by decide) (by decide) (by decide), e7, e8, e9]
    obtain ⟨c1, c2, c3, c4, c5⟩ := hB.2.2.1 k'
    refine ⟨c1, c2, ?_, ?_, ?_⟩
    · split
      · exact b01_le f
      · exact c3
    · split
      · exact b01_le c
      · exact c4
    · split
      · exact b01_le i
      · exact c5
  · rw [eN] at hk'
    have hz := hB.2.2.2.1 k' g hk' a1 a2
    by_cases w : g = 7
    · subst w; rw [e7, if_neg (by omega)]; exact hz
    · by_cases w2 : g = 8
      · subst w2; rw [e8, if_neg (by omega)]; exact hz
      · by_cases w3 : g = 9
        · subst w3; rw [e9, if_neg (by omega)]; exact hz
        · rw [eS g k' w w2 w3]; exact hz
  · refine ⟨h.2.2.2.2.2.1.1, fun e he => ?_⟩
    rw [eN, eS 6 e.1 (by decide) (by decide) (by decide)]
    exact h.2.2.2.2.2.1.2 e he
end
section
variable {e0 mo : Nat} {σ σ1 : SG} {m : Nat} {M : Nat → Nat} {A : MS} {r k j p w : Nat}
end
end AXMW
