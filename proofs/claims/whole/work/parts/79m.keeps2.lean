/-! What holds between calls is kept: take, finish, lose. -/
section AXKEEP2
section
variable {A : MS} {n : Nat}
theorem mStp_lo (A : MS) {r k f : Nat} (hf : f ≠ 40) (r' k' j' : Nat) : (mStp A r k).1 f r' k' j' = A.1 f r' k' j' := by
  unfold mStp
  cases mStop A r k
  · rfl
  · exact mStpT_f A hf r' k' j'
theorem mFin0_lo (A : MS) (w p : Nat) (b : Bool) {f : Nat} (h1 : f ≠ 40) (h2 : f ≠ 42) (h3 : f ≠ 50) (r' k' j' : Nat) : (mFin0 A w p b).1 f r' k' j' = A.1 f r' k' j' := by
  unfold mFin0
  cases b with
  | true =>
    show (mSto (mUpp (mFre A w) 40 p 3) (pR p) (pK p)).1 f r' k' j' = _
    rw [mSto_1]
    exact (mUp_f _ h1 r' k' j').trans (mUp_f _ h3 r' k' j')
  | false =>
    cases (Nat.beq (mU A 11 (pR p)) 7 && !(mStop A (pR p) (pK p)) && Nat.blt (mJp A 2 p) (mS A 5 (pK p))) with
    | true => exact (mUp_f _ h1 r' k' j').trans ((mUp_f _ h2 r' k' j').trans (mUp_f _ h3 r' k' j'))
    | false => exact (mStp_lo _ h1 r' k' j').trans ((mUp_f _ h1 r' k' j').trans (mUp_f _ h3 r' k' j'))
theorem mLos0_lo (A : MS) (w p : Nat) {f : Nat} (h1 : f ≠ 40) (h3 : f ≠ 50) (r' k' j' : Nat) : (mLos0 A w p).1 f r' k' j' = A.1 f r' k' j' := by
  unfold mLos0
  cases (Nat.beq (mU A 11 (pR p)) 7 && !(mStop A (pR p) (pK p))) with
  | true => exact (mUp_f _ h1 r' k' j').trans (mUp_f _ h3 r' k' j')
  | false => exact (mUp_f _ h1 r' k' j').trans (mUp_f _ h3 r' k' j')
theorem lw_finish (h : lwA A n) (u : Int32) (b : Bool) : lwA (oFinish A u b).2 (n + 1) := by
  unfold oFinish
  cases c : inB u 4 with
  | false => exact lw_up h
  | true =>
    cases d : Nat.beq (mW A u.toNatClampNeg) 0 with
    | true => exact lw_up h
    | false =>
      have hw := ax_bnq d
      generalize u.toNatClampNeg = w at hw ⊢
      have hp : mW A w = mW A w - 1 + 1 := by omega
      obtain ⟨p1, p2, p3⟩ := h.1.2.2.2.1.2.2 w _ hp
      obtain ⟨r1, r2⟩ := mR_fin0 A w (mW A w - 1) b
      show lwA (mFol (mFin0 A w (mW A w - 1) b) (pR (mW A w - 1))) (n + 1)
      refine lw_lo h (mFol_ok (mJJ_fin0 h.1 hp b) (by rw [r1]; exact p1) (by unfold mG; rw [r2]; exact p2)) (mTn_up (mTn_fol (mTn_fin0 h.2.1 w _ b))) (fun f r k j a => (mFol_lo f r k j (by omega) (by omega)).trans (mFin0_lo A w _ b (by omega) (by omega) (by omega) r k j))
theorem lw_lose (h : lwA A n) (u : Int32) : lwA (oLose A u).2 (n + 1) := by
  unfold oLose
  cases c : inB u 4 with
  | false => exact lw_up h
  | true =>
    cases d : Nat.beq (mW A u.toNatClampNeg) 0 with
    | true => exact lw_up h
    | false =>
      have hw := ax_bnq d
      generalize u.toNatClampNeg = w at hw ⊢
      have hp : mW A w = mW A w - 1 + 1 := by omega
      obtain ⟨p1, p2, p3⟩ := h.1.2.2.2.1.2.2 w _ hp
      obtain ⟨r1, r2, r3⟩ := mU_los0 A w (mW A w - 1)
      show lwA (mFol (mLos0 A w (mW A w - 1)) (pR (mW A w - 1))) (n + 1)
      refine lw_lo h (mFol_ok (mJJ_los0 h.1 hp) (by rw [r1]; exact p1) (by unfold mG; rw [r2]; exact p2)) (mTn_up (mTn_fol (mTn_los0 h.2.1 w _))) (fun f r k j a => (mFol_lo f r k j (by omega) (by omega)).trans (mLos0_lo A w _ (by omega) (by omega) r k j))
theorem lw_take (h : lwA A n) (u : Int32) : lwA (oTake A u).2 (n + 1) := by
  unfold oTake
  cases c : inB u 4 with
  | false => exact lw_up h
  | true =>
    cases d : Nat.beq (mW A u.toNatClampNeg) 0 with
    | false => exact lw_up h
    | true =>
      cases e : Nat.beq (mQ A).length 0 with
      | true => exact lw_up h
      | false =>
        obtain ⟨w, hw4, rfl⟩ := inB_yes c (by decide)
        have cw : (nI w).toNatClampNeg = w := nI_clamp (by omega)
        have hw := ax_beq d
        have n0 := ax_bnq e
        rw [cw] at hw ⊢
        obtain ⟨p, q, hpq⟩ : ∃ p q, mQ A = p :: q := by
          cases hc : mQ A with
          | nil => rw [hc] at n0; exact absurd rfl n0
          | cons p q => exact ⟨p, q, rfl⟩
        have e0' : (mQ A).getD 0 0 = p := by rw [hpq]; rfl
        rw [e0']
        show lwA (mRes (mTk A w p) (pR p) (pK p) (pJ p)) (n + 1)
        have hpm : p ∈ mQ A := by rw [hpq]; exact List.mem_cons_self ..
        obtain ⟨p1, p2, p3⟩ := h.1.2.2.1.2 p hpm
        have JT := mJJ_tk h.1 hw4 hw hpq
        have TT : mTn (mTk A w p) (n + 1) := mTk_T h.2.1
        have lo : ∀ f r k j, f ≠ 40 → f ≠ 41 → f ≠ 50 → (mTk A w p).1 f r k j = A.1 f r k j := fun f r k j a b c => (mUp_f _ b r k j).trans ((mUp_f _ a r k j).trans (mUp_f _ c r k j))
        have l3 : ∀ f r k j, f ≠ 43 → (mRes (mTk A w p) (pR p) (pK p) (pJ p)).1 f r k j = (mTk A w p).1 f r k j := fun f r k j a => by
          unfold mRes
          cases Nat.beq (mS (mTk A w p) 6 (pK p)) 0
          · exact mUp_f _ a r k j
          · rfl
        have hk := (mNk h.1.1.1 h.1.2.2.2.2.1 p1 (by rw [show mJp A 0 p = 1 from p3]; decide)).1
        refine ⟨mJJ_res JT p1 (pK p) (pJ p), fun r k j => ?_, mJ1_cong (fun f r k j a => (l3 f r k j (by omega)).trans (lo f r k j (by omega) (by omega) (by omega))) h.2.2.1, fun r k j hr hk' h6 => ?_⟩
        · show (mRes (mTk A w p) (pR p) (pK p) (pJ p)).1 41 r k j ≤ _
          rw [l3 41 r k j (by decide)]
          exact TT r k j
        · have hr : (mRes (mTk A w p) (pR p) (pK p) (pJ p)).1 10 0 0 0 > r := hr
          rw [l3 10 0 0 0 (by decide), lo 10 0 0 0 (by decide) (by decide) (by decide)] at hr
          have hk' : (mRes (mTk A w p) (pR p) (pK p) (pJ p)).1 16 r 0 0 > k := hk'
          rw [l3 16 r 0 0 (by decide), lo 16 r 0 0 (by decide) (by decide) (by decide)] at hk'
          have h6 : (mRes (mTk A w p) (pR p) (pK p) (pJ p)).1 26 r k 0 = 0 := h6
          rw [l3 26 r k 0 (by decide), lo 26 r k 0 (by decide) (by decide) (by decide)] at h6
          have z3 : mJ (mTk A w p) 3 r k j = 0 := (lo 43 r k j (by decide) (by decide) (by decide)).trans (h.2.2.2 r k j hr hk' h6)
          show (mRes (mTk A w p) (pR p) (pK p) (pJ p)).1 43 r k j = 0
          unfold mRes
          cases z6 : Nat.beq (mS (mTk A w p) 6 (pK p)) 0 with
          | true => exact z3
          | false =>
            have z6 := ax_bnq z6
            have ne : ¬ (r = pR p ∧ k = pK p ∧ j = pJ p) := fun z => by
              obtain ⟨rfl, rfl, rfl⟩ := z
              have e6 : mP A 6 (pR p) (pK p) = mS A 6 (pK p) := (h.1.1.2.2 _ p1 p2).2 _ 6 hk (by decide) (by decide)
              have z6 : (mTk A w p).1 6 (pK p) 0 0 ≠ 0 := z6
              rw [lo 6 (pK p) 0 0 (by decide) (by decide) (by decide)] at z6
              exact z6 (e6.symm.trans h6)
            exact (mUp_ne _ ne).trans z3
end
/-- the reference is left by what doesn't touch it -/
theorem rm_F {σ σ' : SG} {m : Nat} {M : Nat → Nat} {A : MS} {W : Nat → Nat → Nat → Prop} (h : ax_rm σ m M A) (hF : ax_F W σ σ') (zm : m < sgZ σ) (zM : ∀ i, ax_mr i → M i < sgZ σ) (n7 : ∀ i, ¬ W 7 i m) (nM : ∀ k i j, (k = 20 ∨ k = 21 ∨ k = 22) → ax_mr j → ¬ W k i (M j)) : ax_rm σ' m M A := by
  have d : ∀ i, (i < 22 ∧ i ≠ 0 ∧ i ≠ 10 ∧ i ≠ 19) → ax_mr i := fun i a => a
  obtain ⟨⟨a1, a2, a3⟩, ⟨c1, c2, c3, c4⟩, c5, c6, c7, c8, c9, c10, c11, c12⟩ := h
  have I7 : ∀ i, sgI σ' 7 i m = sgI σ 7 i m := fun i => (hF.2.2.2 7 i m zm (n7 i)).1
  have I0 : ∀ k i j, (k = 20 ∨ k = 21 ∨ k = 22) → ax_mr j → sgI σ' k i (M j) = sgI σ k i (M j) := fun k i j a b => (hF.2.2.2 k i _ (zM j b) (nM k i j a b)).1
  refine ⟨⟨by rw [hF.2.2.1 _ zm]; exact a1, fun i hi => ⟨by rw [(hF.2.2.2 7 i m zm (n7 i)).2.2]; exact (a2 i hi).1, by rw [hF.2.2.1 _ (zM i hi)]; exact (a2 i hi).2⟩, a3⟩, ⟨by rw [I7]; exact c1, by rw [I7]; exact c2, by rw [I7]; exact c3, by rw [I7]; exact c4⟩, fun f k a b c => ?_, fun r hr => ?_, fun r hr => ?_, fun r a b c => ?_, fun r k j a b c => ?_, fun i hi => ?_, fun w hw => ?_, fun i hi => ?_⟩
  · rw [I0 _ k f (by split <;> decide) (d f (by omega))]; exact c5 f k a b c
  · obtain ⟨e1, e2, e3, e4⟩ := c6 r hr
    exact ⟨by rw [I0 20 r 11 (by decide) (d 11 (by decide))]; exact e1, by rw [I0 20 r 12 (by decide) (d 12 (by decide))]; exact e2, by rw [I0 20 r 13 (by decide) (d 13 (by decide))]; exact e3, by rw [I0 20 r 14 (by decide) (d 14 (by decide))]; exact e4⟩
  · rw [(hF.2.2.2 22 r _ (zM 15 (d 15 (by decide))) (nM 22 r 15 (by decide) (d 15 (by decide)))).2.1]; exact c7 r hr
  · rw [I0 20 r 16 (by decide) (d 16 (by decide))]; exact c8 r a b c
  · rw [I0 20 _ 17 (by decide) (d 17 (by decide))]; exact c9 r k j a b c
  · rw [I0 20 i 18 (by decide) (d 18 (by decide))]; exact c10 i hi
  · rw [I0 20 w 20 (by decide) (d 20 (by decide))]; exact c11 w hw
  · rw [I0 20 i 21 (by decide) (d 21 (by decide))]; exact c12 i hi
end AXKEEP2
