/-! What holds between calls is kept: take, finish, lose. -/
section AXKEEP2
section
variable {A : MS} {n : Nat}
theorem mStp_lo (A : MS) {r k f : Nat} (hf : f ≠ 40) (r' k' j' : Nat) : (mStp A r k).1 f r' k' j' = A.1 f r' k' j' := by
  unfold mStp
  cases mStop A r k
  · rfl
  · exact mStpT_f A hf r' k' j'
theorem mFin0_lo (A : MS) (w p : Nat) (b : Bool) {f : Nat} (h1 : f ≠ 40) (h2 : f ≠ 42) (h3 : f ≠ 50) (r' k' j' : Nat) : (mFin0 A w p b).1 f r' k' j' = A.1 f r' k' j' := by
  unfold mFin0
  cases b with
  | true =>
    show (mSto (mUpp (mFre A w) 40 p 3) (pR p) (pK p)).1 f r' k' j' = _
    rw [mSto_1]
    exact (mUp_f _ h1 r' k' j').trans (mUp_f _ h3 r' k' j')
  | false =>
    cases (Nat.beq (mU A 11 (pR p)) 7 && !(mStop A (pR p) (pK p)) && Nat.blt (mJp A 2 p) (mS A 5 (pK p))) with
    | true => exact (mUp_f _ h1 r' k' j').trans ((mUp_f _ h2 r' k' j').trans (mUp_f _ h3 r' k' j'))
    | false => exact (mStp_lo _ h1 r' k' j').trans ((mUp_f _ h1 r' k' j').trans (mUp_f _ h3 r' k' j'))
theorem mLos0_lo (A : MS) (w p : Nat) {f : Nat} (h1 : f ≠ 40) (h3 : f ≠ 50) (r' k' j' : Nat) : (mLos0 A w p).1 f r' k' j' = A.1 f r' k' j' := by
  unfold mLos0
  cases (Nat.beq (mU A 11 (pR p)) 7 && !(mStop A (pR p) (pK p))) with
  | true => exact (mUp_f _ h1 r' k' j').trans (mUp_f _ h3 r' k' j')
  | false => exact (mUp_f _ h1 r' k' j').trans (mUp_f _ h3 r' k' j')
theorem lw_finish (h : lwA A n) (u : Int32) (b : Bool) : lwA (oFinish A u b).2 (n + 1) := by
  unfold oFinish
  cases c : inB u 4 with
  | false => exact lw_up h
  | true =>
    cases d : Nat.beq (mW A u.toNatClampNeg) 0 with
    | true => exact lw_up h
    | false =>
      have hw := ax_bnq d
      generalize u.toNatClampNeg = w at hw ⊢
      have hp : mW A w = mW A w - 1 + 1 := by omega
      obtain ⟨p1, p2, p3⟩ := h.1.2.2.2.1.2.2 w _ hp
      obtain ⟨r1, r2⟩ := mR_fin0 A w (mW A w - 1) b
      show lwA (mFol (mFin0 A w (mW A w - 1) b) (pR (mW A w - 1))) (n + 1)
      refine lw_lo h (mFol_ok (mJJ_fin0 h.1 hp b) (by rw [r1]; exact p1) (by unfold mG; rw [r2]; exact p2)) (mTn_up (mTn_fol (mTn_fin0 h.2.1 w _ b))) (fun f r k j a => (mFol_lo f r k j (by omega) (by omega)).trans (mFin0_lo A w _ b (by omega) (by omega) (by omega) r k j))
theorem lw_lose (h : lwA A n) (u : Int32) : lwA (oLose A u).2 (n + 1) := by
  unfold oLose
  cases c : inB u 4 with
  | false => exact lw_up h
  | true =>
    cases d : Nat.beq (mW A u.toNatClampNeg) 0 with
    | true => exact lw_up h
    | false =>
      have hw := ax_bnq d
      generalize u.toNatClampNeg = w at hw ⊢
      have hp : mW A w = mW A w - 1 + 1 := by omega
      obtain ⟨p1, p2, p3⟩ := h.1.2.2.2.1.2.2 w _ hp
      obtain ⟨r1, r2, r3⟩ := mU_los0 A w (mW A w - 1)
      show lwA (mFol (mLos0 A w (mW A w - 1)) (pR (mW A w - 1))) (n + 1)
      refine lw_lo h (mFol_ok (mJJ_los0 h.1 hp) (by rw [r1]; exact p1) (by unfold mG; rw [r2]; exact p2)) (mTn_up (mTn_fol (mTn_los0 h.2.1 w _))) (fun f r k j a => (mFol_lo f r k j (by omega) (by omega)).trans (mLos0_lo A w _ (by omega) (by omega) r k j))
theorem lw_take (h : lwA A n) (u : Int32) : lwA (oTake A u).2 (n + 1) := by
  unfold oTake
  cases c : inB u 4 with
  | false => exact lw_up h
  | true =>
    cases d : Nat.beq (mW A u.toNatClampNeg) 0 with
    | false => exact lw_up h
    | true =>
      cases e : Nat.beq (mQ A).length 0 with
      | true => exact lw_up h
      | false =>
        obtain ⟨w, hw4, rfl⟩ := inB_yes c (by decide)
        have cw : (nI w).toNatClampNeg = w := nI_clamp (by omega)
        have hw := ax_beq d
        have n0 := ax_bnq e
        rw [cw] at hw ⊢
        obtain ⟨p, q, hpq⟩ : ∃ p q, mQ A = p :: q := by
          cases hc : mQ A with
          | nil => rw [hc] at n0; exact absurd rfl n0
          | cons p q => exact ⟨p, q, rfl⟩
        have e0' : (mQ A).getD 0 0 = p := by rw [hpq]; rfl
        rw [e0']
        show lwA (mRes (mTk A w p) (pR p) (pK p) (pJ p)) (n + 1)
        have hpm : p ∈ mQ A := by rw [hpq]; exact List.mem_cons_self ..
        obtain ⟨p1, p2, p3⟩ := h.1.2.2.1.2 p hpm
        have JT := mJJ_tk h.1 hw4 hw hpq
        have TT : mTn (mTk A w p) (n + 1) := mTk_T h.2.1
        have lo : ∀ f r k j, f ≠ 40 → f ≠ 41 → f ≠ 50 → (mTk A w p).1 f r k j = A.1 f r k j := fun f r k j a b c => (mUp_f _ b r k j).trans ((mUp_f _ a r k j).trans (mUp_f _ c r k j))
        have l3 : ∀ f r k j, f ≠ 43 → (mRes (mTk A w p) (pR p) (pK p) (pJ p)).1 f r k j = (mTk A w p).1 f r k j := fun f r k j a => by
          unfold mRes
          cases Nat.beq (mS (mTk A w p) 6 (pK p)) 0
          · exact mUp_f _ a r k j
          · rfl
        have hk := (mNk h.1.1.1 h.1.2.2.2.2.1 p1 (by rw [show mJp A 0 p = 1 from p3]; decide)).1
        refine ⟨mJJ_res JT p1 (pK p) (pJ p), fun r k j => ?_, mJ1_cong (fun f r k j a => (l3 f r k j (by omega)).trans (lo f r k j (by omega) (by omega) (by omega))) h.2.2.1, fun r k j hr hk' h6 => ?_⟩
        · show (mRes (mTk A w p) (pR p) (pK p) (pJ p)).1 41 r k j ≤ _
          rw [l3 41 r k j (by decide)]
          exact TT r k j
        · have hr : (mRes (mTk A w p) (pR p) (pK p) (pJ p)).1 10 0 0 0 > r := hr
          rw [l3 10 0 0 0 (by decide), lo 10 0 0 0 (by decide) (by decide) (by decide)] at hr
          have hk' : (mRes (mTk A w p) (pR p) (pK p) (pJ p)).1 16 r 0 0 > k := hk'
          rw [l3 16 r 0 0 (by decide), lo 16 r 0 0 (by decide) (by decide) (by decide)] at hk'
          have h6 : (mRes (mTk A w p) (pR p) (pK p) (pJ p)).1 26 r k 0 = 0 := h6
          rw [l3 26 r k 0 (by decide), lo 26 r k 0 (by decide) (by decide) (by decide)] at h6
          have z3 : mJ (mTk A w p) 3 r k j = 0 := (lo 43 r k j (by decide) (by decide) (by decide)).trans (h.2.2.2 r k j hr hk' h6)
          show (mRes (mTk A w p) (pR p) (pK p) (pJ p)).1 43 r k j = 0
          unfold mRes
          cases z6 : Nat.beq (mS (mTk A w p) 6 (pK p)) 0 with
          | true => exact z3
          | false =>
            have z6 := ax_bnq z6
            have ne : ¬ (r = pR p ∧ k = pK p ∧ j = pJ p) := fun z => by
              obtain ⟨rfl, rfl, rfl⟩ := z
              have e6 : mP A 6 (pR p) (pK p) = mS A 6 (pK p) := (h.1.1.2.2 _ p1 p2).2 _ 6 hk (by decide) (by decide)
              have z6 : (mTk A w p).1 6 (pK p) 0 0 ≠ 0 := z6
              rw [lo 6 (pK p) 0 0 (by decide) (by decide) (by decide)] at z6
              exact z6 (e6.symm.trans h6)
            exact (mUp_ne _ ne).trans z3
end
end AXKEEP2
