/-! What follows when jobs have ended: the stages that begin, the run's end. -/
section AXMQ
theorem ax_n_mono {p q : Nat → Bool} : ∀ {n : Nat}, (∀ k, k < n → p k = true → q k = true) → ax_n p n ≤ ax_n q n := by
  intro n
  induction n with
  | zero => intro _; exact Nat.le_refl _
  | succ n ih =>
    intro h
    have h1 := ih fun k hk => h k (by omega)
    have h2 := h n (Nat.lt_succ_self n)
    show ax_n p n + (if p n then 1 else 0) ≤ ax_n q n + (if q n then 1 else 0)
    cases hp : p n with
    | false =>
      rw [if_neg (by decide)]
      split <;> omega
    | true => rw [h2 hp]; omega
theorem ax_n_lt {p q : Nat → Bool} {n x : Nat} (hx : x < n) (h : ∀ k, k < n → p k = true → q k = true) (hp : p x = false) (hq : q x = true) : ax_n p n < ax_n q n := by
  induction n with
  | zero => exact absurd hx (Nat.not_lt_zero x)
  | succ n ih =>
    show ax_n p n + (if p n then 1 else 0) < ax_n q n + (if q n then 1 else 0)
    rcases Nat.lt_succ_iff_lt_or_eq.mp hx with z | z
    · have h1 := ih z fun k hk => h k (by omega)
      have h2 := h n (Nat.lt_succ_self n)
      cases hpn : p n with
      | false => rw [if_neg (by decide)]; omega
      | true => rw [h2 hpn]; omega
    · subst z
      have h1 : ax_n p x ≤ ax_n q x := ax_n_mono fun k hk => h k (by omega)
      rw [hp, hq, if_neg (by decide), if_pos rfl]
      omega
/-- the lowest stage that can begin -/
def mLow (A : MS) (r : Nat) : Option Nat := (List.range (mU A 16 r)).find? (mNx A r)
theorem mLow_some {A : MS} {r k : Nat} : mLow A r = some k ↔ mNx A r k = true ∧ k < mU A 16 r ∧ ∀ j, j < k → mNx A r j = false := by
  unfold mLow
  rw [List.find?_range_eq_some, List.mem_range]
  simp
theorem mLow_none {A : MS} {r : Nat} : mLow A r = none ↔ ∀ j, j < mU A 16 r → mNx A r j = false := by
  unfold mLow
  rw [List.find?_range_eq_none]
  simp
def mAdv : Nat → MS → Nat → MS
  | 0, A, _ => A
  | n + 1, A, r => match mLow A r with
    | none => A
    | some k => mAdv n (mBeg A r k (mGd A r k) 16) r
theorem mAdv_none {A : MS} {r : Nat} (h : mLow A r = none) (n : Nat) : mAdv n A r = A := by
  cases n with
  | zero => rfl
  | succ n => show (match mLow A r with | none => A | some k => mAdv n (mBeg A r k (mGd A r k) 16) r) = A; rw [h]
theorem mAdv_some {A : MS} {r k : Nat} (h : mLow A r = some k) (n : Nat) : mAdv (n + 1) A r = mAdv n (mBeg A r k (mGd A r k) 16) r := by
  show (match mLow A r with | none => A | some k => mAdv n (mBeg A r k (mGd A r k) 16) r) = _
  rw [h]
def mAll (p : Nat → Bool) : Nat → Bool
  | 0 => true
  | n + 1 => mAll p n && p n
theorem mAll_iff {p : Nat → Bool} : ∀ {n : Nat}, mAll p n = true ↔ ∀ k, k < n → p k = true := by
  intro n
  induction n with
  | zero => exact ⟨fun _ k hk => absurd hk (Nat.not_lt_zero k), fun _ => rfl⟩
  | succ n ih =>
    show (mAll p n && p n) = true ↔ _
    rw [Bool.and_eq_true, ih]
    constructor
    · rintro ⟨h1, h2⟩ k hk
      rcases Nat.lt_succ_iff_lt_or_eq.mp hk with q | q
      · exact h1 k q
      · rw [q]; exact h2
    · intro h
      exact ⟨fun k hk => h k (by omega), h n (Nat.lt_succ_self n)⟩
/-- how many jobs of the first n stages are running -/
def mRun (A : MS) (r : Nat) : Nat → Nat
  | 0 => 0
  | n + 1 => mRun A r n + mCnt A r n 2
theorem mCnt_le (A : MS) (r k s : Nat) : mCnt A r k s ≤ 16 := ax_n_le _ 16
theorem mRun_le (A : MS) (r : Nat) : ∀ n, mRun A r n ≤ 16 * n := by
  intro n
  induction n with
  | zero => exact Nat.le_refl _
  | succ n ih =>
    have := mCnt_le A r n 2
    show mRun A r n + mCnt A r n 2 ≤ _
    omega
theorem mRun_zero (A : MS) (r : Nat) : ∀ n, mRun A r n = 0 ↔ ∀ k, k < n → mCnt A r k 2 = 0 := by
  intro n
  induction n with
  | zero => exact ⟨fun _ k hk => absurd hk (Nat.not_lt_zero k), fun _ => rfl⟩
  | succ n ih =>
    show mRun A r n + mCnt A r n 2 = 0 ↔ _
    constructor
    · intro h k hk
      rcases Nat.lt_succ_iff_lt_or_eq.mp hk with q | q
      · exact ih.mp (by omega) k q
      · rw [q]; omega
    · intro h
      rw [ih.mpr (fun k hk => h k (by omega)), h n (Nat.lt_succ_self n)]
def mFin (A : MS) (r : Nat) : MS := bif Nat.beq (mU A 11 r) 7 then (bif mAll (mOver A r) (mU A 16 r) then mEnd A r (bif mAll (mWell A r) (mU A 16 r) then 9 else 10) else A) else bif Nat.beq (mRun A r (mU A 16 r)) 0 then mEnd A r 5 else A
def mFol (A : MS) (r : Nat) : MS := mFin (bif Nat.beq (mU A 11 r) 7 then mAdv 8 A r else A) r
/-- how many stages wait -/
def mWt (A : MS) (r : Nat) : Nat := ax_n (fun k => Nat.blt 0 (mCnt A r k 0)) (mU A 16 r)
theorem mNx_wait {A : MS} {r k : Nat} (h : mNx A r k = true) : 0 < mCnt A r k 0 := by
  have key : ∀ t, mNxT A r k t = true → Nat.blt 0 (mCnt A r k 0) = true := by
    intro t
    induction t with
    | zero => exact id
    | succ t ih =>
      intro h
      have h : (mNxT A r k t && (!(mBit (mS A 4 k) t) || mOver A r t)) = true := h
      rw [Bool.and_eq_true] at h
      exact ih h.1
  exact Nat.blt_eq.mp (key _ h)
section
variable {A : MS} {r k : Nat}
theorem mWt_beg (h : mNx A r k = true) (hk : k < mU A 16 r) (g : Bool) : mWt (mBeg A r k g 16) r < mWt A r := by
  unfold mWt
  rw [show mU (mBeg A r k g 16) 16 r = mU A 16 r from mBeg_f A (by decide) r 0 0]
  have key : ∀ k', k' ≠ k → mCnt (mBeg A r k g 16) r k' 0 = mCnt A r k' 0 := fun k' q => ax_n_cong fun j _ => by rw [show mJ (mBeg A r k g 16) 0 r k' j = mJ A 0 r k' j from mBeg_ge A (fun z => q z.2.1)]
  have kk : mCnt (mBeg A r k g 16) r k 0 = 0 := ax_n_zero.mpr fun j hj => by
    rcases mBeg_or A r k g 16 r k j with q | ⟨-, -, -, -, q⟩
    · rw [q]
      refine nb_ne fun z => ?_
      have := mBeg_at A (g := g) z hj
      rw [q, z] at this
      cases g <;> cases this
    · rw [q]; cases g <;> rfl
  refine ax_n_lt hk (fun k' _ z => ?_) ?_ (Nat.blt_eq.mpr (mNx_wait h))
  · by_cases q : k' = k
    · rw [q]; exact Nat.blt_eq.mpr (mNx_wait h)
    · rw [← key k' q]; exact z
  · rw [kk]; rfl
theorem mJJ_adv (n : Nat) : ∀ {A : MS}, mJJ A → r < mR A → mU A 11 r = 7 → mJJ (mAdv n A r) ∧ mU (mAdv n A r) 11 r = 7 ∧ mR (mAdv n A r) = mR A ∧ mU (mAdv n A r) 16 r = mU A 16 r := by
  induction n with
  | zero => intro A h hr h7; exact ⟨h, h7, rfl, rfl⟩
  | succ n ih =>
    intro A h hr h7
    cases q : mLow A r with
    | none => rw [mAdv_none q]; exact ⟨h, h7, rfl, rfl⟩
    | some k =>
      rw [mAdv_some q]
      obtain ⟨-, hk, -⟩ := mLow_some.mp q
      exact ih (mJJ_beg h hr hk h7 _) hr h7
theorem mT_adv (n : Nat) : ∀ {A : MS}, mT A → mT (mAdv n A r) := by
  induction n with
  | zero => intro A h; exact h
  | succ n ih =>
    intro A h
    cases q : mLow A r with
    | none => rw [mAdv_none q]; exact h
    | some k => rw [mAdv_some q]; exact ih (mT_beg h)
/-- a run without queued and running jobs may end -/
theorem mJJ_end (h : mJJ A) {s : Nat} (hs : s = 9 ∨ s = 10 ∨ s = 5) (hno : ∀ k j, j < 16 → mJ A 0 r k j ≠ 1 ∧ mJ A 0 r k j ≠ 2) : mJJ (mEnd A r s) := by
  obtain ⟨⟨hB, hP, hN⟩, hGo, hQ, hW, hJ, hE, h60⟩ := h
  have lo : ∀ f r' k' j', f < 40 → f ≠ 11 → (mEnd A r s).1 f r' k' j' = A.1 f r' k' j' := fun f r' k' j' _ b => mUp_f A b r' k' j'
  have hG : ∀ r', mG (mEnd A r s) r' → mG A r' := fun r' z => by
    by_cases q : r' = r
    · unfold mG at z
      rw [q, show mU (mEnd A r s) 11 r = s from mUp_at A 11 r 0 0 s] at z
      omega
    · unfold mG at z ⊢
      rw [show mU (mEnd A r s) 11 r' = mU A 11 r' from mUp_ne A (fun z => q z.1)] at z
      exact z
  have hG' : ∀ r', r' ≠ r → mG A r' → mG (mEnd A r s) r' := fun r' q z => by
    unfold mG at z ⊢
    rw [show mU (mEnd A r s) 11 r' = mU A 11 r' from mUp_ne A (fun z => q z.1)]
    exact z
  refine ⟨⟨?_, mPB_cong lo hP, mNow_cong lo (fun r' _ z => hG r' z) hN⟩, ?_, ⟨hQ.1, fun p hp => ?_⟩, ⟨hW.1, hW.2.1, fun w p h1 => ?_⟩, ⟨hJ.1, fun r' k' j' hr' h8 hj' => ?_, hJ.2.2⟩, mEB_cong lo rfl hE, h60⟩
  · refine mB_cong lo (fun r' hr' => ?_) (fun r' k' j' hr' => hB.2.2.2.2.2 r' k' j' hr') hB
    by_cases q : r' = r
    · rw [q, show mU (mEnd A r s) 11 r = s from mUp_at A 11 r 0 0 s]; omega
    · rw [show mU (mEnd A r s) 11 r' = mU A 11 r' from mUp_ne A (fun z => q z.1)]
      exact (hB.2.2.2.2.1 r' hr').1
  · exact Nat.le_trans (ax_n_mono fun r' _ z => mGb_iff.mpr (hG r' (mGb_iff.mp z))) hGo
  · obtain ⟨h1, h2, h3⟩ := hQ.2 p hp
    refine ⟨h1, hG' _ (fun z => ?_) h2, h3⟩
    rw [z] at h3
    exact (hno _ _ (pl_of p).2.2).1 h3
  · obtain ⟨h1, h2, h3⟩ := hW.2.2 w p h1
    refine ⟨h1, hG' _ (fun z => ?_) h2, h3⟩
    rw [z] at h3
    exact (hno _ _ (pl_of p).2.2).2 h3
  · by_cases q : r' = r
    · rw [q, show mU (mEnd A r s) 11 r = s from mUp_at A 11 r 0 0 s] at h8
      omega
    · rw [show mU (mEnd A r s) 11 r' = mU A 11 r' from mUp_ne A (fun z => q z.1)] at h8
      exact hJ.2.1 r' k' j' hr' h8 hj'
theorem mFin_ok (h : mJJ A) (hr : r < mR A) (hG : mG A r) : mJJ (mFin A r) := by
  have hJ := h.2.2.2.2.1
  unfold mFin
  cases q7 : Nat.beq (mU A 11 r) 7 with
  | true =>
    cases qo : mAll (mOver A r) (mU A 16 r) with
    | false => exact h
    | true =>
      refine mJJ_end h (by cases mAll (mWell A r) (mU A 16 r) <;> decide) fun k j hj => ?_
      by_cases hk : k < mU A 16 r
      · have ho := mOver_iff.mp (mAll_iff.mp qo k hk) j hj
        refine ⟨fun z => ?_, fun z => ?_⟩
        · rw [z] at ho; exact absurd ho (by decide)
        · rw [z] at ho; exact absurd ho (by decide)
      · rw [hJ.1 r k j hr (by omega)]; exact ⟨by decide, by decide⟩
  | false =>
    cases qr : Nat.beq (mRun A r (mU A 16 r)) 0 with
    | false => exact h
    | true =>
      have h8 : mU A 11 r = 8 := hG.resolve_left (ax_bnq q7)
      refine mJJ_end h (Or.inr (Or.inr rfl)) fun k j hj => ⟨(hJ.2.1 r k j hr h8 hj).2, fun z => ?_⟩
      by_cases hk : k < mU A 16 r
      · have hc := (mRun_zero A r _).mp (ax_beq qr) k hk
        have := ax_n_zero.mp hc j hj
        rw [z] at this
        cases this
      · rw [hJ.1 r k j hr (by omega)] at z; cases z
theorem mFol_ok (h : mJJ A) (hr : r < mR A) (hG : mG A r) : mJJ (mFol A r) := by
  unfold mFol
  cases q7 : Nat.beq (mU A 11 r) 7 with
  | true =>
    obtain ⟨h1, h2, h3, h4⟩ := mJJ_adv 8 h hr (ax_beq q7)
    exact mFin_ok h1 (by show r < mR (mAdv 8 A r); rw [h3]; exact hr) (Or.inl h2)
  | false => exact mFin_ok h hr hG
theorem mFol_T (h : mT A) : mT (mFol A r) := by
  have key : ∀ B : MS, mT B → mT (mFin B r) := fun B hB => by
    unfold mFin
    cases Nat.beq (mU B 11 r) 7
    · cases Nat.beq (mRun B r (mU B 16 r)) 0
      · exact hB
      · exact hB
    · cases mAll (mOver B r) (mU B 16 r)
      · exact hB
      · exact hB
  unfold mFol
  cases Nat.beq (mU A 11 r) 7
  · exact key A h
  · exact key _ (mT_adv 8 h)
end
section
variable {e0 mo : Nat} {m : Nat} {M : Nat → Nat} {r : Nat}
end
end AXMQ
