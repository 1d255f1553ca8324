/-! A new run; older runs of its branch. -/
section AXMZ
def mNv (A : MS) (b x y z f k j : Nat) : Nat :=
  if f = 11 then 7 else if f = 12 then b else if f = 13 then x else if f = 14 then y else if f = 15 then z else if f = 16 then mN A else
  if f < 30 then mS A (f - 20) k else
  if f = 40 then (if k < mN A ∧ j < mS A 1 k * mS A 2 k ∧ mBit (mS A 3 k) j = false then 0 else 8) else 0
def mNew (A : MS) (b x y z : Nat) : MS := (fun f r' k' j' => if f = 10 ∧ r' = 0 ∧ k' = 0 ∧ j' = 0 then mR A + 1 else if r' = mR A ∧ 11 ≤ f ∧ f ≤ 43 then mNv A b x y z f k' j' else A.1 f r' k' j', A.2)
theorem mNew_R (A : MS) (b x y z : Nat) : mR (mNew A b x y z) = mR A + 1 := by
  show (if (10 : Nat) = 10 ∧ (0 : Nat) = 0 ∧ (0 : Nat) = 0 ∧ (0 : Nat) = 0 then mR A + 1 else (if (0 : Nat) = mR A ∧ 11 ≤ 10 ∧ 10 ≤ 43 then mNv A b x y z 10 0 0 else A.1 10 0 0 0)) = mR A + 1
  exact if_pos ⟨rfl, rfl, rfl, rfl⟩
theorem mNew_old {A : MS} {b x y z f r k j : Nat} (h10 : f ≠ 10) (h : ¬ (r = mR A ∧ 11 ≤ f ∧ f ≤ 43)) : (mNew A b x y z).1 f r k j = A.1 f r k j := by
  show (if f = 10 ∧ r = 0 ∧ k = 0 ∧ j = 0 then mR A + 1 else if r = mR A ∧ 11 ≤ f ∧ f ≤ 43 then mNv A b x y z f k j else A.1 f r k j) = _
  rw [if_neg (fun q => h10 q.1), if_neg h]
theorem mNew_at {A : MS} {b x y z f k j : Nat} (h1 : 11 ≤ f) (h2 : f ≤ 43) : (mNew A b x y z).1 f (mR A) k j = mNv A b x y z f k j := by
  show (if f = 10 ∧ mR A = 0 ∧ k = 0 ∧ j = 0 then mR A + 1 else if mR A = mR A ∧ 11 ≤ f ∧ f ≤ 43 then mNv A b x y z f k j else A.1 f (mR A) k j) = _
  rw [if_neg (fun q => by omega), if_pos ⟨rfl, h1, h2⟩]
theorem mNv_P {A : MS} {b x y z f k j : Nat} (h1 : 1 ≤ f) (h2 : f ≤ 9) : mNv A b x y z (20 + f) k j = mS A f k := by
  unfold mNv
  rw [if_neg (by omega), if_neg (by omega), if_neg (by omega), if_neg (by omega), if_neg (by omega), if_neg (by omega), if_pos (by omega), show 20 + f - 20 = f by omega]
theorem mNv_0 (A : MS) (b x y z k j : Nat) : mNv A b x y z 40 k j = if k < mN A ∧ j < mS A 1 k * mS A 2 k ∧ mBit (mS A 3 k) j = false then 0 else 8 := rfl
section
variable {A : MS} {r k : Nat}
theorem mJJ_new (h : mJJ A) {b x y z : Nat} (hN : 1 ≤ mN A) (hR : mR A < 80) (hg : mGo A ≤ 5) (hb : b < 4) (hx : x < 100) (hy : y < 100) (hz : z < 100) : mJJ (mNew A b x y z) := by
  obtain ⟨⟨hB, hP, hNw⟩, hGo, hQ, hW, hJ, hE, h60⟩ := id h
  have eR := mNew_R A b x y z
  have lo : ∀ f r k j, f < 10 → (mNew A b x y z).1 f r k j = A.1 f r k j := fun f r k j a => mNew_old (by omega) (by omega)
  have old : ∀ f r k j, r < mR A → f ≠ 10 → (mNew A b x y z).1 f r k j = A.1 f r k j := fun f r k j a c => mNew_old c (by omega)
  have eN : mN (mNew A b x y z) = mN A := lo 0 0 0 0 (by decide)
  have eS : ∀ f k, f < 10 → mS (mNew A b x y z) f k = mS A f k := fun f k a => lo f k 0 0 a
  have eW : ∀ w, mW (mNew A b x y z) w = mW A w := fun w => mNew_old (by decide) (by omega)
  have n11 : mU (mNew A b x y z) 11 (mR A) = 7 := mNew_at (by decide) (by decide)
  have n16 : mU (mNew A b x y z) 16 (mR A) = mN A := mNew_at (by decide) (by decide)
  have nP : ∀ f k, 1 ≤ f → f ≤ 9 → mP (mNew A b x y z) f (mR A) k = mS A f k := fun f k a c => (mNew_at (by omega) (by omega)).trans (mNv_P a c)
  have nJ : ∀ k j, mJ (mNew A b x y z) 0 (mR A) k j = if k < mN A ∧ j < mS A 1 k * mS A 2 k ∧ mBit (mS A 3 k) j = false then 0 else 8 := fun k j => mNew_at (by decide) (by decide)
  have nJ08 : ∀ k j, mJ (mNew A b x y z) 0 (mR A) k j = 0 ∨ mJ (mNew A b x y z) 0 (mR A) k j = 8 := fun k j => by
    rw [nJ]
    split
    · exact Or.inl rfl
    · exact Or.inr rfl
  have eG : ∀ r, r < mR A → (mG (mNew A b x y z) r ↔ mG A r) := fun r hr => by
    unfold mG
    rw [show mU (mNew A b x y z) 11 r = mU A 11 r from old 11 r 0 0 hr (by decide)]
  refine ⟨⟨⟨⟨by rw [eN]; exact hB.1.1, by rw [eR]; omega⟩, fun k hk => ?_, fun k => ?_, fun k f hk a1 a2 => ?_, fun r hr => ?_, fun r k j hr => ?_⟩, fun r k hr hk => ?_, fun r hr hG => ?_⟩, ?_, ⟨hQ.1, fun p hp => ?_⟩, ⟨fun w hw => ?_, fun w v h1 h2 => ?_, fun w p h1 => ?_⟩, ⟨fun r k j hr hk => ?_, fun r k j hr h8 hj => ?_, fun r k j j' hr h1 h2 h3 => ?_⟩, ⟨hE.1, fun e he => ?_⟩, ?_⟩
  · rw [eN] at hk ⊢
    rw [eS 1 k (by decide), eS 2 k (by decide), eS 3 k (by decide), eS 4 k (by decide)]
    exact hB.2.1 k hk
  · rw [eS 5 k (by decide), eS 6 k (by decide), eS 7 k (by decide), eS 8 k (by decide), eS 9 k (by decide)]
    exact hB.2.2.1 k
  · rw [eN] at hk
    rw [eS f k (by omega)]
    exact hB.2.2.2.1 k f hk a1 a2
  · rw [eR] at hr
    rcases Nat.lt_succ_iff_lt_or_eq.mp hr with q | q
    · rw [show mU (mNew A b x y z) 11 r = mU A 11 r from old 11 r 0 0 q (by decide), show mU (mNew A b x y z) 12 r = mU A 12 r from old 12 r 0 0 q (by decide), show mU (mNew A b x y z) 13 r = mU A 13 r from old 13 r 0 0 q (by decide), show mU (mNew A b x y z) 14 r = mU A 14 r from old 14 r 0 0 q (by decide), show mU (mNew A b x y z) 15 r = mU A 15 r from old 15 r 0 0 q (by decide), show mU (mNew A b x y z) 16 r = mU A 16 r from old 16 r 0 0 q (by decide), eN]
      exact hB.2.2.2.2.1 r q
    · rw [q, n11, n16, eN, show mU (mNew A b x y z) 12 (mR A) = b from mNew_at (by decide) (by decide), show mU (mNew A b x y z) 13 (mR A) = x from mNew_at (by decide) (by decide), show mU (mNew A b x y z) 14 (mR A) = y from mNew_at (by decide) (by decide), show mU (mNew A b x y z) 15 (mR A) = z from mNew_at (by decide) (by decide)]
      exact ⟨Or.inl rfl, hb, hx, hy, hz, hN, Nat.le_refl _⟩
  · rw [eR] at hr
    rcases Nat.lt_succ_iff_lt_or_eq.mp hr with q | q
    · rw [show mJ (mNew A b x y z) 0 r k j = mJ A 0 r k j from old 40 r k j q (by decide), show mJ (mNew A b x y z) 2 r k j = mJ A 2 r k j from old 42 r k j q (by decide), show mJ (mNew A b x y z) 3 r k j = mJ A 3 r k j from old 43 r k j q (by decide)]
      exact hB.2.2.2.2.2 r k j q
    · rw [q, show mJ (mNew A b x y z) 2 (mR A) k j = 0 from mNew_at (by decide) (by decide), show mJ (mNew A b x y z) 3 (mR A) k j = 0 from mNew_at (by decide) (by decide)]
      refine ⟨?_, by decide, by decide⟩
      rcases nJ08 k j with w | w <;> rw [w] <;> decide
  · rw [eR] at hr
    rcases Nat.lt_succ_iff_lt_or_eq.mp hr with q | q
    · rw [show mU (mNew A b x y z) 16 r = mU A 16 r from old 16 r 0 0 q (by decide)] at hk ⊢
      rw [show mP (mNew A b x y z) 4 r k = mP A 4 r k from old 24 r k 0 q (by decide), show mP (mNew A b x y z) 5 r k = mP A 5 r k from old 25 r k 0 q (by decide), show mP (mNew A b x y z) 6 r k = mP A 6 r k from old 26 r k 0 q (by decide), show mP (mNew A b x y z) 7 r k = mP A 7 r k from old 27 r k 0 q (by decide), show mP (mNew A b x y z) 8 r k = mP A 8 r k from old 28 r k 0 q (by decide), show mP (mNew A b x y z) 9 r k = mP A 9 r k from old 29 r k 0 q (by decide)]
      exact hP r k q hk
    · rw [q, n16] at hk
      rw [q, n16, nP 4 k (by decide) (by decide), nP 5 k (by decide) (by decide), nP 6 k (by decide) (by decide), nP 7 k (by decide) (by decide), nP 8 k (by decide) (by decide), nP 9 k (by decide) (by decide)]
      obtain ⟨c1, c2, c3, c4, c5⟩ := hB.2.2.1 k
      exact ⟨(hB.2.1 k hk).2.2.2, c3, c4, c5, c1, c2⟩
  · rw [eR] at hr
    rcases Nat.lt_succ_iff_lt_or_eq.mp hr with q | q
    · obtain ⟨c1, c2⟩ := hNw r q ((eG r q).mp hG)
      rw [show mU (mNew A b x y z) 16 r = mU A 16 r from old 16 r 0 0 q (by decide), eN]
      refine ⟨c1, fun k f hk a1 a2 => ?_⟩
      rw [show mP (mNew A b x y z) f r k = mP A f r k from old (20 + f) r k 0 q (by omega), eS f k (by omega)]
      exact c2 k f hk a1 a2
    · rw [q, n16, eN]
      refine ⟨rfl, fun k f hk a1 a2 => ?_⟩
      rw [nP f k a1 a2, eS f k (by omega)]
  · have e : mGo (mNew A b x y z) = ax_n (mGb (mNew A b x y z)) (mR A) + (if mGb (mNew A b x y z) (mR A) then 1 else 0) := by
      unfold mGo
      rw [eR]
      rfl
    have e2 : ax_n (mGb (mNew A b x y z)) (mR A) = mGo A := ax_n_cong fun r hr => by
      unfold mGb
      rw [show mU (mNew A b x y z) 11 r = mU A 11 r from old 11 r 0 0 hr (by decide)]
    rw [e, e2]
    split <;> omega
  · obtain ⟨g1, g2, g3⟩ := hQ.2 p hp
    rw [eR]
    exact ⟨by omega, (eG _ g1).mpr g2, (old 40 _ _ _ g1 (by decide)).trans g3⟩
  · rw [eW]; exact hW.1 w hw
  · rw [eW] at h1 h2
    rw [eW] at h2
    exact hW.2.1 w v h1 h2
  · rw [eW] at h1
    obtain ⟨g1, g2, g3⟩ := hW.2.2 w p h1
    rw [eR]
    exact ⟨by omega, (eG _ g1).mpr g2, (old 40 _ _ _ g1 (by decide)).trans g3⟩
  · rw [eR] at hr
    rcases Nat.lt_succ_iff_lt_or_eq.mp hr with q | q
    · rw [show mU (mNew A b x y z) 16 r = mU A 16 r from old 16 r 0 0 q (by decide)] at hk
      rw [show mJ (mNew A b x y z) 0 r k j = mJ A 0 r k j from old 40 r k j q (by decide)]
      exact hJ.1 r k j q hk
    · rw [q, n16] at hk
      rw [q, nJ, if_neg (by omega)]
  · rw [eR] at hr
    rcases Nat.lt_succ_iff_lt_or_eq.mp hr with q | q
    · rw [show mU (mNew A b x y z) 11 r = mU A 11 r from old 11 r 0 0 q (by decide)] at h8
      rw [show mJ (mNew A b x y z) 0 r k j = mJ A 0 r k j from old 40 r k j q (by decide)]
      exact hJ.2.1 r k j q h8 hj
    · rw [q, n11] at h8; cases h8
  · rw [eR] at hr
    rcases Nat.lt_succ_iff_lt_or_eq.mp hr with q | q
    · rw [show mJ (mNew A b x y z) 0 r k j = mJ A 0 r k j from old 40 r k j q (by decide)] at h3
      rw [show mJ (mNew A b x y z) 0 r k j' = mJ A 0 r k j' from old 40 r k j' q (by decide)]
      exact hJ.2.2 r k j j' q h1 h2 h3
    · rw [q]; exact nJ08 k j'
  · rw [eN, eS 6 e.1 (by decide)]
    exact hE.2 e he
  · exact (mNew_old (by decide) (by omega)).trans h60
theorem mTn_new {n : Nat} (h : mTn A n) {b x y z : Nat} : mTn (mNew A b x y z) n := fun r k j => by
  by_cases q : r = mR A
  · rw [q, show mJ (mNew A b x y z) 1 (mR A) k j = 0 from mNew_at (by decide) (by decide)]
    exact Nat.zero_le _
  · rw [show mJ (mNew A b x y z) 1 r k j = mJ A 1 r k j from mNew_old (by decide) (by omega)]
    exact h r k j
/-- what follows keeps all but runs' states and jobs -/
theorem mAdv_lo (n : Nat) : ∀ {A : MS} (f r' k' j' : Nat), f ≠ 40 → (mAdv n A r).1 f r' k' j' = A.1 f r' k' j' := by
  induction n with
  | zero => intro A f r' k' j' _; rfl
  | succ n ih =>
    intro A f r' k' j' a
    cases q : mLow A r with
    | none => rw [mAdv_none q]
    | some k => rw [mAdv_some q, ih f r' k' j' a]; exact mBeg_f A a r' k' j'
theorem mFin_lo (f r' k' j' : Nat) (h : f ≠ 11) : (mFin A r).1 f r' k' j' = A.1 f r' k' j' := by
  unfold mFin
  cases Nat.beq (mU A 11 r) 7
  · cases Nat.beq (mRun A r (mU A 16 r)) 0
    · rfl
    · exact mUp_f A h r' k' j'
  · cases mAll (mOver A r) (mU A 16 r)
    · rfl
    · exact mUp_f A h r' k' j'
theorem mFol_lo (f r' k' j' : Nat) (h : f ≠ 11) (h2 : f ≠ 40) : (mFol A r).1 f r' k' j' = A.1 f r' k' j' := by
  unfold mFol
  rw [mFin_lo f r' k' j' h]
  cases Nat.beq (mU A 11 r) 7
  · rfl
  · exact mAdv_lo 8 f r' k' j' h2
theorem mFin_E : mE (mFin A r) = mE A := by
  unfold mFin
  cases Nat.beq (mU A 11 r) 7
  · cases Nat.beq (mRun A r (mU A 16 r)) 0 <;> rfl
  · cases mAll (mOver A r) (mU A 16 r) <;> rfl
theorem mGo_fin (hG : mG A r) : mGo (mFin A r) ≤ mGo A := by
  have key : ∀ s, mGo (mEnd A r s) ≤ mGo A := fun s => ax_n_mono fun r' _ z => by
    by_cases q : r' = r
    · rw [q]; exact mGb_iff.mpr hG
    · unfold mGb at z ⊢
      rw [show mU (mEnd A r s) 11 r' = mU A 11 r' from mUp_ne A (fun z => q z.1)] at z
      exact z
  unfold mFin
  cases Nat.beq (mU A 11 r) 7
  · cases Nat.beq (mRun A r (mU A 16 r)) 0
    · exact Nat.le_refl _
    · exact key 5
  · cases mAll (mOver A r) (mU A 16 r)
    · exact Nat.le_refl _
    · exact key _
theorem mGo_fol (hG : mG A r) : mGo (mFol A r) ≤ mGo A := by
  unfold mFol
  cases q : Nat.beq (mU A 11 r) 7
  · exact mGo_fin hG
  · have e : ∀ r', mU (mAdv 8 A r) 11 r' = mU A 11 r' := fun r' => mAdv_lo 8 11 r' 0 0 (by decide)
    have e2 : mGo (mAdv 8 A r) = mGo A := mGo_cong (mAdv_lo 8 10 0 0 0 (by decide)) (fun r' _ => by unfold mGb; rw [e])
    rw [← e2]
    refine mGo_fin ?_
    unfold mG at hG ⊢
    show mU (mAdv 8 A r) 11 r = 7 ∨ mU (mAdv 8 A r) 11 r = 8
    rw [e]; exact hG
theorem mGo_can (h7 : mU A 11 r = 7) : mGo (mCan A r) ≤ mGo A := by
  refine ax_n_mono fun r' _ z => ?_
  by_cases q : r' = r
  · rw [q]; exact mGb_iff.mpr (Or.inl h7)
  · unfold mGb at z ⊢
    rw [show mU (mCan A r) 11 r' = mU A 11 r' from (mUp_ne _ (fun z => q z.1)).trans (mCanT_f A (by decide) (by decide) r' 0 0)] at z
    exact z
theorem mCan_lo (f r' k' j' : Nat) (h : f ≠ 11) (h2 : f ≠ 40) (h3 : f ≠ 50) : (mCan A r).1 f r' k' j' = A.1 f r' k' j' := (mUp_f _ h r' k' j').trans (mCanT_f A h2 h3 r' k' j')
theorem mTn_can {n : Nat} (h : mTn A n) : mTn (mCan A r) n := fun r' k' j' => by
  rw [show mJ (mCan A r) 1 r' k' j' = mJ A 1 r' k' j' from mCan_lo 41 r' k' j' (by decide) (by decide) (by decide)]
  exact h r' k' j'
theorem mTn_fol {n : Nat} (h : mTn A n) : mTn (mFol A r) n := fun r' k' j' => by
  rw [show mJ (mFol A r) 1 r' k' j' = mJ A 1 r' k' j' from mFol_lo 41 r' k' j' (by decide) (by decide)]
  exact h r' k' j'
/-- the first n runs of the branch b that go are cancelled -/
def mOld (A : MS) (b : Nat) : Nat → MS
  | 0 => A
  | n + 1 => bif Nat.beq (mU (mOld A b n) 11 n) 7 && Nat.beq (mU (mOld A b n) 12 n) b then mFol (mCan (mOld A b n) n) n else mOld A b n
theorem mOld_ok (h : mJJ A) {t : Nat} (hT : mTn A t) (b : Nat) : ∀ n, n ≤ mR A → mJJ (mOld A b n) ∧ mTn (mOld A b n) t ∧ mGo (mOld A b n) ≤ mGo A ∧ ∀ f r' k' j', f ≠ 11 → f ≠ 40 → f ≠ 50 → (mOld A b n).1 f r' k' j' = A.1 f r' k' j' := by
  intro n
  induction n with
  | zero => intro _; exact ⟨h, hT, Nat.le_refl _, fun _ _ _ _ _ _ _ => rfl⟩
  | succ n ih =>
    intro hn
    obtain ⟨h1, h2, h3, h4⟩ := ih (by omega)
    have e : mOld A b (n + 1) = bif Nat.beq (mU (mOld A b n) 11 n) 7 && Nat.beq (mU (mOld A b n) 12 n) b then mFol (mCan (mOld A b n) n) n else mOld A b n := rfl
    rw [e]
    cases q : (Nat.beq (mU (mOld A b n) 11 n) 7 && Nat.beq (mU (mOld A b n) 12 n) b) with
    | false => exact ⟨h1, h2, h3, h4⟩
    | true =>
      rw [Bool.and_eq_true] at q
      have h7 := ax_beq q.1
      have eR : mR (mOld A b n) = mR A := h4 10 0 0 0 (by decide) (by decide) (by decide)
      have hG8 : mG (mCan (mOld A b n) n) n := Or.inr (mUp_at _ 11 n 0 0 8)
      have eR2 : mR (mCan (mOld A b n) n) = mR A := (mCan_lo 10 0 0 0 (by decide) (by decide) (by decide)).trans eR
      refine ⟨mFol_ok (mJJ_can h1 (by omega) h7) (by rw [eR2]; omega) hG8, mTn_fol (mTn_can h2), Nat.le_trans (mGo_fol hG8) (Nat.le_trans (mGo_can h7) h3), fun f r' k' j' a c d => ?_⟩
      show (mFol (mCan (mOld A b n) n) n).1 f r' k' j' = _
      rw [mFol_lo f r' k' j' a c, mCan_lo f r' k' j' a c d]
      exact h4 f r' k' j' a c d
/-- inputs -/
def inI (x : Int32) : Bool := decide ((0 : Int32) ≤ x ∧ x ≤ 99)
theorem inI_yes {x : Int32} (h : inI x = true) : ∃ n, n < 100 ∧ x = nI n := inB_yes (n := 100) (x := x) h (by decide)
def pushB (A : MS) : Bool := Nat.blt 0 (mN A) && Nat.blt (mGo A) 6 && Nat.blt (mR A) 80
def mPush (A : MS) (b x y z : Nat) : MS := mFol (mNew (mOld A b (mR A)) b x y z) (mR A)
def oPush (A : MS) (b x y z : Int32) : OC := bif inB b 4 then (bif inI x && inI y && inI z then (bif pushB A then ((0, nI (mR A)), mPush A b.toNatClampNeg x.toNatClampNeg y.toNatClampNeg z.toNatClampNeg) else ((3, 0), A)) else ((2, 0), A)) else ((1, 0), A)
theorem mPush_ok (h : mJJ A) {t b x y z : Nat} (hT : mTn A t) (hp : pushB A = true) (hb : b < 4) (hx : x < 100) (hy : y < 100) (hz : z < 100) : mJJ (mNew (mOld A b (mR A)) b x y z) ∧ mTn (mNew (mOld A b (mR A)) b x y z) t ∧ mR (mOld A b (mR A)) = mR A ∧ mJJ (mPush A b x y z) ∧ mTn (mPush A b x y z) t := by
  unfold pushB at hp
  simp only [Bool.and_eq_true, Nat.blt_eq] at hp
  obtain ⟨h1, h2, h3, h4⟩ := mOld_ok h hT b (mR A) (Nat.le_refl _)
  have eR : mR (mOld A b (mR A)) = mR A := h4 10 0 0 0 (by decide) (by decide) (by decide)
  have eN : mN (mOld A b (mR A)) = mN A := h4 0 0 0 0 (by decide) (by decide) (by decide)
  have j := mJJ_new h1 (b := b) (x := x) (y := y) (z := z) (by omega) (by omega) (by omega) hb hx hy hz
  have hr : mR A < mR (mNew (mOld A b (mR A)) b x y z) := by rw [mNew_R, eR]; omega
  have hG : mG (mNew (mOld A b (mR A)) b x y z) (mR A) := by
    left
    have n11 := mNew_at (A := mOld A b (mR A)) (b := b) (x := x) (y := y) (z := z) (f := 11) (k := 0) (j := 0) (by decide) (by decide)
    rw [eR] at n11
    exact n11
  exact ⟨j, mTn_new h2, eR, mFol_ok j hr hG, mTn_fol (mTn_new h2)⟩
end
end AXMZ
