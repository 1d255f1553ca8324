/-! What holds between calls is kept by every call. -/
section AXKEEP
def lwA (A : MS) (n : Nat) : Prop := mJJ A ∧ mTn A n ∧ mJ1 A ∧ mJR A
theorem mTn_up {A : MS} {n : Nat} (h : mTn A n) : mTn A (n + 1) := fun r k j => Nat.le_succ_of_le (h r k j)
theorem lw_up {A : MS} {n : Nat} (h : lwA A n) : lwA A (n + 1) := ⟨h.1, mTn_up h.2.1, h.2.2⟩
theorem mJ1_cong {A A' : MS} (hA : ∀ f r k j, f < 4 → A'.1 f r k j = A.1 f r k j) (h : mJ1 A) : mJ1 A' := fun k hk => by
  have e : mJobs A' k = mJobs A k := by
    unfold mJobs
    rw [show mS A' 1 k = mS A 1 k from hA 1 k 0 0 (by decide), show mS A' 2 k = mS A 2 k from hA 2 k 0 0 (by decide), show mS A' 3 k = mS A 3 k from hA 3 k 0 0 (by decide)]
  rw [e]
  exact h k (by rw [← show mN A' = mN A from hA 0 0 0 0 (by decide)]; exact hk)
theorem mJR_cong {A A' : MS} (hA : ∀ f r k j, f = 10 ∨ f = 16 ∨ f = 26 ∨ f = 43 → A'.1 f r k j = A.1 f r k j) (h : mJR A) : mJR A' := fun r k j hr hk h6 => by
  rw [show mJ A' 3 r k j = mJ A 3 r k j from hA 43 r k j (by decide)]
  refine h r k j ?_ ?_ ?_
  · rw [← show mR A' = mR A from hA 10 0 0 0 (by decide)]; exact hr
  · rw [← show mU A' 16 r = mU A 16 r from hA 16 r 0 0 (by decide)]; exact hk
  · rw [← show mP A' 6 r k = mP A 6 r k from hA 26 r k 0 (by decide)]; exact h6
theorem lw_lo {A A' : MS} {n : Nat} (h : lwA A n) (hJ : mJJ A') (hT : mTn A' (n + 1)) (hA : ∀ f r k j, f < 4 ∨ f = 10 ∨ f = 16 ∨ f = 26 ∨ f = 43 → A'.1 f r k j = A.1 f r k j) : lwA A' (n + 1) := ⟨hJ, hT, mJ1_cong (fun f r k j a => hA f r k j (Or.inl a)) h.2.2.1, mJR_cong (fun f r k j a => hA f r k j (Or.inr a)) h.2.2.2⟩
section
variable {A : MS} {n : Nat}
theorem lw_addStage (h : lwA A n) (u v : Int32) : lwA (oAddStage A u v).2 (n + 1) := by
  unfold oAddStage
  cases c : (in14 u && in14 v) with
  | false => exact lw_up h
  | true =>
    cases d : (Nat.beq (mGo A) 0 && Nat.blt (mN A) 8) with
    | false => exact lw_up h
    | true =>
      rw [Bool.and_eq_true] at c d
      obtain ⟨a, a1, a4, rfl⟩ := in14_yes c.1
      obtain ⟨b, b1, b4, rfl⟩ := in14_yes c.2
      have ca : (nI a).toNatClampNeg = a := nI_clamp (by omega)
      have cb : (nI b).toNatClampNeg = b := nI_clamp (by omega)
      show lwA (mAddS A (nI a).toNatClampNeg (nI b).toNatClampNeg) (n + 1)
      rw [ca, cb]
      have lo : ∀ f r k j, 10 ≤ f → (mAddS A a b).1 f r k j = A.1 f r k j := fun f r k j e => (mUp_f _ (by omega) r k j).trans ((mUp_f _ (by omega) r k j).trans ((mUp_f _ (by omega) r k j).trans (mUp_f _ (by omega) r k j)))
      refine ⟨mJJ_add h.1 (ax_beq d.1) (Nat.blt_eq.mp d.2) ⟨a1, a4⟩ ⟨b1, b4⟩, fun r k j => ?_, mJ1_add h.2.2.1 h.1.1.1 a1 b1, mJR_cong (fun f r k j e => lo f r k j (by omega)) h.2.2.2⟩
      show (mAddS A a b).1 41 r k j ≤ _
      rw [lo 41 r k j (by decide)]
      exact Nat.le_succ_of_le (h.2.1 r k j)
theorem lw_need (h : lwA A n) (u v : Int32) : lwA (oNeed A u v).2 (n + 1) := by
  unfold oNeed
  have hN := h.1.1.1.1.1
  cases c : (inB u (mN A) && inB v (mN A)) with
  | false => exact lw_up h
  | true =>
    cases d : needB A u.toNatClampNeg v.toNatClampNeg with
    | false => exact lw_up h
    | true =>
      rw [Bool.and_eq_true] at c
      obtain ⟨k, hk, rfl⟩ := inB_yes c.1 (by omega)
      obtain ⟨o, ho, rfl⟩ := inB_yes c.2 (by omega)
      have ck : (nI k).toNatClampNeg = k := nI_clamp (by omega)
      have co : (nI o).toNatClampNeg = o := nI_clamp (by omega)
      rw [ck, co] at d
      show lwA (mNeed A (nI k).toNatClampNeg (nI o).toNatClampNeg) (n + 1)
      rw [ck, co]
      unfold needB at d
      simp only [Bool.and_eq_true] at d
      exact lw_lo h (mJJ_need h.1 (ax_beq d.1.1.1) hk ho) (mTn_up h.2.1) (fun f r k j e => mUp_f A (by omega) r k j)
theorem lw_exclude (h : lwA A n) (u v z : Int32) : lwA (oExclude A u v z).2 (n + 1) := by
  unfold oExclude
  have hN := h.1.1.1.1.1
  cases c : (inB u (mN A) && inB v (mS A 1 u.toNatClampNeg) && inB z (mS A 2 u.toNatClampNeg)) with
  | false => exact lw_up h
  | true =>
    cases d : excB A u.toNatClampNeg (v.toNatClampNeg * mS A 2 u.toNatClampNeg + z.toNatClampNeg) with
    | false => exact lw_up h
    | true =>
      simp only [Bool.and_eq_true] at c
      obtain ⟨⟨c1, c2⟩, c3⟩ := c
      obtain ⟨k, hk, rfl⟩ := inB_yes c1 (by omega)
      have ck : (nI k).toNatClampNeg = k := nI_clamp (by omega)
      rw [ck] at c2 c3 d
      obtain ⟨⟨d1, d2⟩, ⟨d3, d4⟩, -⟩ := h.1.1.1.2.1 k hk
      obtain ⟨a, ha, rfl⟩ := inB_yes c2 (by omega)
      obtain ⟨b, hb, rfl⟩ := inB_yes c3 (by omega)
      have ca : (nI a).toNatClampNeg = a := nI_clamp (by omega)
      have cb : (nI b).toNatClampNeg = b := nI_clamp (by omega)
      rw [ca, cb] at d
      show lwA (mExc A (nI k).toNatClampNeg ((nI a).toNatClampNeg * mS A 2 (nI k).toNatClampNeg + (nI b).toNatClampNeg)) (n + 1)
      rw [ck, ca, cb]
      have hj : a * mS A 2 k + b < mS A 1 k * mS A 2 k := by
        have : (a + 1) * mS A 2 k ≤ mS A 1 k * mS A 2 k := Nat.mul_le_mul_right _ ha
        rw [Nat.add_mul, Nat.one_mul] at this
        omega
      unfold excB at d
      simp only [Bool.and_eq_true] at d
      exact ⟨mJJ_exc h.1 (ax_beq d.1.1) hk hj, mTn_up h.2.1, mJ1_exc h.2.2.1 hk (Nat.blt_eq.mp d.2), mJR_cong (fun f r k j e => mUp_f A (by omega) r k j) h.2.2.2⟩
theorem lw_setStage (h : lwA A n) (u y z : Int32) : lwA (oSetStage A u y z).2 (n + 1) := by
  unfold oSetStage
  have hN := h.1.1.1.1.1
  cases c : inB u (mN A) with
  | false => exact lw_up h
  | true =>
    cases d : (in02 y && in03 z) with
    | false => exact lw_up h
    | true =>
      cases e : Nat.beq (mGo A) 0 with
      | false => exact lw_up h
      | true =>
        rw [Bool.and_eq_true] at d
        obtain ⟨k, hk, rfl⟩ := inB_yes c (by omega)
        obtain ⟨y, hy, rfl⟩ := in02_yes d.1
        obtain ⟨z, hz, rfl⟩ := in03_yes d.2
        have ck : (nI k).toNatClampNeg = k := nI_clamp (by omega)
        have cy : (nI y).toNatClampNeg = y := nI_clamp (by omega)
        have cz : (nI z).toNatClampNeg = z := nI_clamp (by omega)
        show lwA (mSetS A (nI k).toNatClampNeg (nI y).toNatClampNeg (nI z).toNatClampNeg) (n + 1)
        rw [ck, cy, cz]
        exact lw_lo h (mJJ_setS h.1 (ax_beq e) hk hy hz) (mTn_up h.2.1) (fun f r k j e => (mUp_f _ (by omega) r k j).trans (mUp_f A (by omega) r k j))
theorem lw_setMarks (h : lwA A n) (u : Int32) (f c i : Bool) : lwA (oSetMarks A u f c i).2 (n + 1) := by
  unfold oSetMarks
  have hN := h.1.1.1.1.1
  cases d : inB u (mN A) with
  | false => exact lw_up h
  | true =>
    cases e : Nat.beq (mGo A) 0 with
    | false => exact lw_up h
    | true =>
      obtain ⟨k, hk, rfl⟩ := inB_yes d (by omega)
      have ck : (nI k).toNatClampNeg = k := nI_clamp (by omega)
      show lwA (mSetM A (nI k).toNatClampNeg f c i) (n + 1)
      rw [ck]
      exact lw_lo h (mJJ_setM h.1 (ax_beq e) hk f c i) (mTn_up h.2.1) (fun f r k j e => (mUp_f _ (by omega) r k j).trans ((mUp_f _ (by omega) r k j).trans (mUp_f A (by omega) r k j)))
theorem lw_cancel (h : lwA A n) (u : Int32) : lwA (oCancel A u).2 (n + 1) := by
  unfold oCancel
  have hR := h.1.1.1.1.2
  cases d : inB u (mR A) with
  | false => exact lw_up h
  | true =>
    obtain ⟨r, hr, rfl⟩ := inB_yes d (by omega)
    have cr : (nI r).toNatClampNeg = r := nI_clamp (by omega)
    rw [cr]
    cases e : Nat.beq (mU A 11 r) 7 with
    | false => exact lw_up h
    | true =>
      have h7 := ax_beq e
      show lwA (mFol (mCan A r) r) (n + 1)
      refine lw_lo h (mFol_ok (mJJ_can h.1 hr h7) hr (Or.inr (mUp_at _ 11 r 0 0 8))) (mTn_up (mTn_fol (mTn_can h.2.1))) (fun f r' k j a => (mFol_lo f r' k j (by omega) (by omega)).trans (mCan_lo f r' k j (by omega) (by omega) (by omega)))
theorem lw_push (h : lwA A n) (b u v z : Int32) : lwA (oPush A b u v z).2 (n + 1) := by
  unfold oPush
  cases c : inB b 4 with
  | false => exact lw_up h
  | true =>
    cases d : (inI u && inI v && inI z) with
    | false => exact lw_up h
    | true =>
      cases e : pushB A with
      | false => exact lw_up h
      | true =>
        simp only [Bool.and_eq_true] at d
        obtain ⟨b, hb, rfl⟩ := inB_yes c (by decide)
        obtain ⟨x1, hx, rfl⟩ := inI_yes d.1.1
        obtain ⟨y1, hy, rfl⟩ := inI_yes d.1.2
        obtain ⟨z1, hz, rfl⟩ := inI_yes d.2
        have cb : (nI b).toNatClampNeg = b := nI_clamp (by omega)
        have cx : (nI x1).toNatClampNeg = x1 := nI_clamp (by omega)
        have cy : (nI y1).toNatClampNeg = y1 := nI_clamp (by omega)
        have cz : (nI z1).toNatClampNeg = z1 := nI_clamp (by omega)
        show lwA (mPush A (nI b).toNatClampNeg (nI x1).toNatClampNeg (nI y1).toNatClampNeg (nI z1).toNatClampNeg) (n + 1)
        rw [cb, cx, cy, cz]
        obtain ⟨p1, p2, p3, p4, p5⟩ := mPush_ok h.1 h.2.1 e hb hx hy hz
        obtain ⟨o1, o2, o3, o4⟩ := mOld_ok h.1 h.2.1 b (mR A) (Nat.le_refl _)
        have l1 : ∀ f r k j, f ≠ 11 → f ≠ 40 → (mPush A b x1 y1 z1).1 f r k j = (mNew (mOld A b (mR A)) b x1 y1 z1).1 f r k j := fun f r k j a c => mFol_lo f r k j a c
        refine ⟨p4, mTn_up p5, mJ1_cong (fun f r k j a => ?_) h.2.2.1, fun r k j hr hk h6 => ?_⟩
        · rw [l1 f r k j (by omega) (by omega), mNew_old (by omega) (by omega), o4 f r k j (by omega) (by omega) (by omega)]
        · rw [show mJ (mPush A b x1 y1 z1) 3 r k j = (mNew (mOld A b (mR A)) b x1 y1 z1).1 43 r k j from l1 43 r k j (by decide) (by decide)]
          by_cases q : r = mR (mOld A b (mR A))
          · rw [q, mNew_at (by decide) (by decide)]; rfl
          · have ol : ∀ f r' k j, (f = 16 ∨ f = 26 ∨ f = 43) → r' = r → (mNew (mOld A b (mR A)) b x1 y1 z1).1 f r' k j = A.1 f r' k j := fun f r' k j a c => by
              rw [mNew_old (by omega) (fun z => q (c ▸ z.1)), o4 f r' k j (by omega) (by omega) (by omega)]
            rw [ol 43 r k j (by decide) rfl]
            have hr : r < (mPush A b x1 y1 z1).1 10 0 0 0 := hr
            rw [l1 10 0 0 0 (by decide) (by decide)] at hr
            have hr : r < mR (mNew (mOld A b (mR A)) b x1 y1 z1) := hr
            rw [mNew_R, p3] at hr
            rw [p3] at q
            refine h.2.2.2 r k j (by omega) ?_ ?_
            · have hk : k < (mPush A b x1 y1 z1).1 16 r 0 0 := hk
              rw [l1 16 r 0 0 (by decide) (by decide), ol 16 r 0 0 (by decide) rfl] at hk
              exact hk
            · have h6 : (mPush A b x1 y1 z1).1 26 r k 0 = 0 := h6
              rw [l1 26 r k 0 (by decide) (by decide), ol 26 r k 0 (by decide) rfl] at h6
              exact h6
end
end AXKEEP
