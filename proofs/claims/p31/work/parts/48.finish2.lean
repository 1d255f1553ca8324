/-! The reference's finish and lose. -/
section AXMV
section
variable {e0 mo : Nat} {σ : SG} {m : Nat} {M : Nat → Nat} {A : MS} {r k j p w : Nat}
theorem fin0_st (A : MS) (w p : Nat) (b : Bool) : mJp (mFin0 A w p b) 0 p = 3 ∨ mJp (mFin0 A w p b) 0 p = 1 ∨ mJp (mFin0 A w p b) 0 p = 4 := by
  unfold mFin0
  cases b with
  | true =>
    left
    show (mSto (mUpp (mFre A w) 40 p 3) (pR p) (pK p)).1 40 (pR p) (pK p) (pJ p) = 3
    rw [mSto_1]
    exact mUp_at _ 40 (pR p) (pK p) (pJ p) 3
  | false =>
    right
    cases (Nat.beq (mU A 11 (pR p)) 7 && !(mStop A (pR p) (pK p)) && Nat.blt (mJp A 2 p) (mS A 5 (pK p))) with
    | true => exact Or.inl (mUp_at _ 40 (pR p) (pK p) (pJ p) 1)
    | false =>
      right
      show mJp (mStp (mUpp (mFre A w) 40 p 4) (pR p) (pK p)) 0 p = 4
      have e4 : mJp (mUpp (mFre A w) 40 p 4) 0 p = 4 := mUp_at _ 40 (pR p) (pK p) (pJ p) 4
      unfold mStp
      cases mStop (mUpp (mFre A w) 40 p 4) (pR p) (pK p) with
      | false => exact e4
      | true =>
        refine (mStpT_p _ _ _ _ p).trans ((if_neg fun z => ?_).trans e4)
        unfold mStx at z
        rw [e4, show Nat.beq 4 1 = false from rfl, Bool.and_false] at z
        cases z
theorem hasW_yes (hW : mWI A) (hI : mB A) {x : Int32} (h : hasW A x = true) : ∃ w p, x = nI w ∧ w < 4 ∧ x.toNatClampNeg = w ∧ mW A w = p + 1 ∧ mW A w - 1 = p ∧ pR p < mR A ∧ mG A (pR p) ∧ mJp A 0 p = 2 ∧ p < 10240 := by
  unfold hasW at h
  rw [Bool.and_eq_true] at h
  obtain ⟨w, hw4, rfl⟩ := inB_yes h.1 (by decide)
  have c1 : (nI w).toNatClampNeg = w := nI_clamp (by omega)
  have hws := mW_small hW hI w
  have h2 := h.2
  rw [c1] at h2
  have hw0 : mW A w ≠ 0 := fun z => by rw [z] at h2; cases h2
  obtain ⟨g1, g2, g3⟩ := hW.2.2 w (mW A w - 1) (by omega)
  exact ⟨w, mW A w - 1, rfl, hw4, c1, by omega, rfl, g1, g2, g3, by omega⟩
theorem mNk (hI : mB A) (hJ : mJI A) (hp : pR p < mR A) (h : mJp A 0 p ≠ 8) : pK p < mU A 16 (pR p) ∧ pK p < mN A := by
  have hk : pK p < mU A 16 (pR p) := by
    rcases Nat.lt_or_ge (pK p) (mU A 16 (pR p)) with q | q
    · exact q
    · exact absurd (hJ.1 _ _ (pJ p) hp q) h
  exact ⟨hk, Nat.lt_of_lt_of_le hk (hI.2.2.2.2.1 _ hp).2.2.2.2.2.2⟩
theorem mR_fin0 (A : MS) (w p : Nat) (b : Bool) : mR (mFin0 A w p b) = mR A ∧ mU (mFin0 A w p b) 11 (pR p) = mU A 11 (pR p) := by
  unfold mFin0
  cases b with
  | true =>
    show (mSto (mUpp (mFre A w) 40 p 3) (pR p) (pK p)).1 10 0 0 0 = _ ∧ (mSto (mUpp (mFre A w) 40 p 3) (pR p) (pK p)).1 11 (pR p) 0 0 = _
    rw [mSto_1]
    exact ⟨rfl, rfl⟩
  | false =>
    cases (Nat.beq (mU A 11 (pR p)) 7 && !(mStop A (pR p) (pK p)) && Nat.blt (mJp A 2 p) (mS A 5 (pK p))) with
    | true => exact ⟨rfl, rfl⟩
    | false =>
      show mR (mStp (mUpp (mFre A w) 40 p 4) (pR p) (pK p)) = _ ∧ mU (mStp (mUpp (mFre A w) 40 p 4) (pR p) (pK p)) 11 (pR p) = _
      unfold mStp
      cases mStop (mUpp (mFre A w) 40 p 4) (pR p) (pK p)
      · exact ⟨rfl, rfl⟩
      · exact ⟨rfl, rfl⟩
theorem mTn_fin0 {n : Nat} (h : mTn A n) (w p : Nat) (b : Bool) : mTn (mFin0 A w p b) n := by
  unfold mFin0
  cases b with
  | true =>
    intro r k j
    show (mSto (mUpp (mFre A w) 40 p 3) (pR p) (pK p)).1 41 r k j ≤ n
    rw [mSto_1]
    exact h r k j
  | false =>
    cases (Nat.beq (mU A 11 (pR p)) 7 && !(mStop A (pR p) (pK p)) && Nat.blt (mJp A 2 p) (mS A 5 (pK p))) with
    | true => exact h
    | false => exact mT_stp h
theorem mTn_los0 {n : Nat} (h : mTn A n) (w p : Nat) : mTn (mLos0 A w p) n := by
  unfold mLos0
  cases (Nat.beq (mU A 11 (pR p)) 7 && !(mStop A (pR p) (pK p)))
  · exact h
  · exact h
theorem mR_los0 (A : MS) (w p : Nat) : mR (mLos0 A w p) = mR A ∧ mU (mLos0 A w p) 11 (pR p) = mU A 11 (pR p) := by
  unfold mLos0
  cases (Nat.beq (mU A 11 (pR p)) 7 && !(mStop A (pR p) (pK p)))
  · exact ⟨rfl, rfl⟩
  · exact ⟨rfl, rfl⟩
end
end AXMV
