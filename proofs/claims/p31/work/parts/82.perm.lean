/-! Unlike workers: the state with the workers' places moved, and every call on it. -/
section AXPM
/-- the worker w has what q w had -/
def pm (q : Nat → Nat) (A : MS) : MS := (fun f r k j => if f = 50 then A.1 50 (q r) k j else A.1 f r k j, A.2)
def opm (q : Nat → Nat) (o : OC) : OC := (o.1, pm q o.2)
/-- q takes back what p does -/
def pq (p q : Nat → Nat) : Prop := (∀ w, q (p w) = w) ∧ (∀ w, p (q w) = w)
section
variable {p q : Nat → Nat} {A B : MS} {r k j f : Nat}
theorem pm_f (hf : f ≠ 50) (r k j : Nat) : (pm q A).1 f r k j = A.1 f r k j := if_neg hf
theorem pm_w (r k j : Nat) : (pm q A).1 50 r k j = A.1 50 (q r) k j := by
  show (if (50 : Nat) = 50 then A.1 50 (q r) k j else A.1 50 r k j) = _
  exact if_pos rfl
theorem pm_ext {A' : MS} (h1 : ∀ f r k j, f ≠ 50 → B.1 f r k j = A'.1 f r k j) (h2 : ∀ r k j, B.1 50 r k j = A'.1 50 (q r) k j) (h3 : B.2 = A'.2) : B = pm q A' := by
  refine Prod.ext ?_ h3
  funext f r k j
  by_cases h : f = 50
  · subst h
    exact (h2 r k j).trans (pm_w r k j).symm
  · exact (h1 f r k j h).trans (pm_f h r k j).symm
theorem pm_bif {c : Bool} : (bif c then pm q A else pm q B) = pm q (bif c then A else B) := by cases c <;> rfl
theorem opm_bif {c : Bool} {o o' : OC} : (bif c then opm q o else opm q o') = opm q (bif c then o else o') := by cases c <;> rfl
-- what is read
theorem pm_go : mGo (pm q A) = mGo A := rfl
theorem pm_nxT (r k : Nat) : ∀ t, mNxT (pm q A) r k t = mNxT A r k t := by
  intro t
  induction t with
  | zero => rfl
  | succ t ih =>
    show (mNxT (pm q A) r k t && (!(mBit (mS A 4 k) t) || mOver A r t)) = _
    rw [ih]
    rfl
theorem pm_gdT (r k : Nat) : ∀ t, mGdT (pm q A) r k t = mGdT A r k t := by
  intro t
  induction t with
  | zero => rfl
  | succ t ih =>
    show (mGdT (pm q A) r k t && (!(mBit (mS A 4 k) t) || mWellN A r t)) = _
    rw [ih]
    rfl
theorem pm_pass (a : Nat) : ∀ t, mPass (pm q A) a t = mPass A a t := by
  intro t
  induction t with
  | zero => rfl
  | succ t ih =>
    show (bif mBit (mPass (pm q A) a t) t then mPass (pm q A) a t ||| mS A 4 t else mPass (pm q A) a t) = _
    rw [ih]
    rfl
theorem pm_turn (a : Nat) : ∀ t, mTurn (pm q A) a t = mTurn A a t := by
  intro t
  induction t with
  | zero => rfl
  | succ t ih =>
    show mPass (pm q A) (mTurn (pm q A) a t) (mN A) = _
    rw [ih, pm_pass]
    rfl
theorem pm_art (r k : Nat) : ∀ t, mArt (pm q A) r k t = mArt A r k t := by
  intro t
  induction t with
  | zero => rfl
  | succ t ih =>
    show mArt (pm q A) r k t + (bif mBit (mP A 4 r k) t then mCnt A r t 3 else 0) = _
    rw [ih]
    rfl
theorem pm_fnd (r k l : Nat) : ∀ t, mFnd (pm q A) r k l t = mFnd A r k l t := by
  intro t
  induction t with
  | zero => rfl
  | succ t ih =>
    show (bif Nat.ble (mFnd (pm q A) r k l t).2 (mNe A r k l t) then (t + 1, mNe A r k l t) else mFnd (pm q A) r k l t) = _
    rw [ih]
    rfl
theorem pm_run (r : Nat) : ∀ t, mRun (pm q A) r t = mRun A r t := by
  intro t
  induction t with
  | zero => rfl
  | succ t ih =>
    show mRun (pm q A) r t + mCnt A r t 2 = _
    rw [ih]
    rfl
theorem pm_nx (r : Nat) : mNx (pm q A) r = mNx A r := by
  funext k
  exact pm_nxT r k _
theorem pm_gd (r k : Nat) : mGd (pm q A) r k = mGd A r k := pm_gdT r k _
theorem pm_low (r : Nat) : mLow (pm q A) r = mLow A r := by
  unfold mLow
  rw [pm_nx]
  rfl
-- what is written
theorem pm_up (hf : f ≠ 50) (r k j v : Nat) : mUp (pm q A) f r k j v = pm q (mUp A f r k j v) := by
  refine pm_ext (fun f' r' k' j' h => ?_) (fun r' k' j' => ?_) rfl
  · show (if f' = f ∧ r' = r ∧ k' = k ∧ j' = j then v else (pm q A).1 f' r' k' j') = _
    rw [pm_f h]
    rfl
  · show (if 50 = f ∧ r' = r ∧ k' = k ∧ j' = j then v else (pm q A).1 50 r' k' j') = (if 50 = f ∧ q r' = r ∧ k' = k ∧ j' = j then v else A.1 50 (q r') k' j')
    rw [if_neg (fun z => hf z.1.symm), if_neg (fun z => hf z.1.symm), pm_w]
theorem pm_upp (hf : f ≠ 50) (x v : Nat) : mUpp (pm q A) f x v = pm q (mUpp A f x v) := pm_up hf _ _ _ _
theorem pm_upw (h : pq p q) (w v : Nat) : mUp (pm q A) 50 (p w) 0 0 v = pm q (mUp A 50 w 0 0 v) := by
  refine pm_ext (fun f' r' k' j' h => ?_) (fun r' k' j' => ?_) rfl
  · show (if f' = 50 ∧ r' = p w ∧ k' = 0 ∧ j' = 0 then v else (pm q A).1 f' r' k' j') = (if f' = 50 ∧ r' = w ∧ k' = 0 ∧ j' = 0 then v else A.1 f' r' k' j')
    rw [if_neg (fun z => h z.1), if_neg (fun z => h z.1), pm_f h]
  · show (if 50 = 50 ∧ r' = p w ∧ k' = 0 ∧ j' = 0 then v else (pm q A).1 50 r' k' j') = (if 50 = 50 ∧ q r' = w ∧ k' = 0 ∧ j' = 0 then v else A.1 50 (q r') k' j')
    rw [pm_w]
    by_cases z : q r' = w ∧ k' = 0 ∧ j' = 0
    · rw [if_pos ⟨rfl, by rw [← z.1, h.2], z.2⟩, if_pos ⟨rfl, z⟩]
    · rw [if_neg (fun y => z ⟨by rw [y.2.1, h.1], y.2.2⟩), if_neg (fun y => z y.2)]
theorem pm_2 (Q : List Nat) (E : List (Nat × Nat)) : ((pm q A).1, Q, E) = pm q (A.1, Q, E) := rfl
theorem pm_beg (r k : Nat) (g : Bool) (t : Nat) : mBeg (pm q A) r k g t = pm q (mBeg A r k g t) := by
  refine pm_ext (fun f' r' k' j' h => ?_) (fun r' k' j' => ?_) rfl
  · show (if f' = 40 ∧ r' = r ∧ k' = k ∧ j' < t ∧ A.1 40 r k j' = 0 then (if g then 1 else 6) else (pm q A).1 f' r' k' j') = _
    rw [pm_f h]
    rfl
  · show (if 50 = 40 ∧ r' = r ∧ k' = k ∧ j' < t ∧ A.1 40 r k j' = 0 then (if g then 1 else 6) else (pm q A).1 50 r' k' j') = (if 50 = 40 ∧ q r' = r ∧ k' = k ∧ j' < t ∧ A.1 40 r k j' = 0 then (if g then 1 else 6) else A.1 50 (q r') k' j')
    rw [if_neg (fun z => absurd z.1 (by decide)), if_neg (fun z => absurd z.1 (by decide)), pm_w]
theorem pm_adv (r : Nat) : ∀ n (A : MS), mAdv n (pm q A) r = pm q (mAdv n A r) := by
  intro n
  induction n with
  | zero => intro A; rfl
  | succ n ih =>
    intro A
    show (match mLow (pm q A) r with
      | none => pm q A
      | some k => mAdv n (mBeg (pm q A) r k (mGd (pm q A) r k) 16) r) = pm q (match mLow A r with
      | none => A
      | some k => mAdv n (mBeg A r k (mGd A r k) 16) r)
    rw [pm_low]
    cases mLow A r with
    | none => rfl
    | some k =>
      show mAdv n (mBeg (pm q A) r k (mGd (pm q A) r k) 16) r = pm q (mAdv n (mBeg A r k (mGd A r k) 16) r)
      rw [pm_gd, pm_beg, ih]
theorem pm_fin (r : Nat) : mFin (pm q A) r = pm q (mFin A r) := by
  have e1 : ∀ s, mEnd (pm q A) r s = pm q (mEnd A r s) := fun s => pm_up (by decide) _ _ _ _
  show (bif Nat.beq (mU A 11 r) 7 then (bif mAll (mOver A r) (mU A 16 r) then mEnd (pm q A) r (bif mAll (mWell A r) (mU A 16 r) then 9 else 10) else pm q A) else bif Nat.beq (mRun (pm q A) r (mU A 16 r)) 0 then mEnd (pm q A) r 5 else pm q A) = _
  rw [e1, e1, pm_run, pm_bif, pm_bif, pm_bif]
  rfl
theorem pm_fol (r : Nat) : mFol (pm q A) r = pm q (mFol A r) := by
  show mFin (bif Nat.beq (mU A 11 r) 7 then mAdv 8 (pm q A) r else pm q A) r = _
  rw [pm_adv, pm_bif, pm_fin]
  rfl
theorem pm_canT (r x : Nat) : mCanT (pm q A) r x = pm q (mCanT A r x) := by
  refine pm_ext (fun f' r' k' j' h => ?_) (fun r' k' j' => ?_) rfl
  · show (if f' = 40 ∧ k' < 8 ∧ j' < 16 ∧ mCx A r x (pl r' k' j') = true then 5 else if f' = 50 ∧ mW (pm q A) r' ≠ 0 ∧ mCx A r x (mW (pm q A) r' - 1) = true then 0 else (pm q A).1 f' r' k' j') = (if f' = 40 ∧ k' < 8 ∧ j' < 16 ∧ mCx A r x (pl r' k' j') = true then 5 else if f' = 50 ∧ mW A r' ≠ 0 ∧ mCx A r x (mW A r' - 1) = true then 0 else A.1 f' r' k' j')
    rw [if_neg (c := f' = 50 ∧ _) (fun z => h z.1), if_neg (c := f' = 50 ∧ _) (fun z => h z.1), pm_f h]
  · show (if 50 = 40 ∧ k' < 8 ∧ j' < 16 ∧ mCx A r x (pl r' k' j') = true then 5 else if 50 = 50 ∧ mW (pm q A) r' ≠ 0 ∧ mCx A r x (mW (pm q A) r' - 1) = true then 0 else (pm q A).1 50 r' k' j') = (if 50 = 40 ∧ k' < 8 ∧ j' < 16 ∧ mCx A r x (pl (q r') k' j') = true then 5 else if 50 = 50 ∧ mW A (q r') ≠ 0 ∧ mCx A r x (mW A (q r') - 1) = true then 0 else A.1 50 (q r') k' j')
    rw [if_neg (c := 50 = 40 ∧ _) (fun z => absurd z.1 (by decide)), if_neg (c := 50 = 40 ∧ _) (fun z => absurd z.1 (by decide)), pm_w]
    rfl
theorem pm_can (r : Nat) : mCan (pm q A) r = pm q (mCan A r) := by
  show mUp (mCanT (pm q A) r (16 * mU A 16 r)) 11 r 0 0 8 = _
  rw [pm_canT, pm_up (by decide)]
  rfl
theorem pm_res (r k j : Nat) : mRes (pm q A) r k j = pm q (mRes A r k j) := by
  have e1 : mFn (pm q A) r k = mFn A r k := pm_fnd r k _ _
  show (bif Nat.beq (mS A 6 k) 0 then pm q A else ((mUp (pm q A) 43 r k j ((bif Nat.beq (mFn (pm q A) r k).1 0 then 0 else (mFn (pm q A) r k).2) + 1)).1, mQ A, bif Nat.beq (mFn (pm q A) r k).1 0 then mE A else mRot (mE A) ((mFn (pm q A) r k).1 - 1))) = _
  rw [e1, pm_up (by decide), pm_2, pm_bif]
  rfl
theorem pm_sto (r k : Nat) : mSto (pm q A) r k = pm q (mSto A r k) := by
  show (bif Nat.beq (mS A 6 k) 0 then pm q A else bif mHas A (k, mKey A r (mS A 6 k)) then pm q A else ((pm q A).1, mQ A, bif Nat.blt 10 ((mE A).length + 1) then (mE A ++ [(k, mKey A r (mS A 6 k))]).eraseIdx 0 else mE A ++ [(k, mKey A r (mS A 6 k))])) = _
  rw [pm_2, pm_bif, pm_bif]
  rfl
theorem pm_tk (h : pq p q) (w x : Nat) : mTk (pm q A) (p w) x = pm q (mTk A w x) := by
  show mUpp (mUpp (mUp ((pm q A).1, (mQ A).tail, mE A) 50 (p w) 0 0 (x + 1)) 40 x 2) 41 x (mJp A 1 x + 1) = _
  rw [pm_2, pm_upw h, pm_upp (by decide), pm_upp (by decide)]
  rfl
theorem pm_fre (h : pq p q) (w : Nat) : mFre (pm q A) (p w) = pm q (mFre A w) := pm_upw h w 0
theorem pm_stpT (r k t : Nat) : mStpT (pm q A) r k t = pm q (mStpT A r k t) := by
  refine pm_ext (fun f' r' k' j' h => ?_) (fun r' k' j' => ?_) rfl
  · show (if f' = 40 ∧ k' < 8 ∧ j' < 16 ∧ mStx A r k t (pl r' k' j') = true then 7 else (pm q A).1 f' r' k' j') = _
    rw [pm_f h]
    rfl
  · show (if 50 = 40 ∧ k' < 8 ∧ j' < 16 ∧ mStx A r k t (pl r' k' j') = true then 7 else (pm q A).1 50 r' k' j') = (if 50 = 40 ∧ k' < 8 ∧ j' < 16 ∧ mStx A r k t (pl (q r') k' j') = true then 7 else A.1 50 (q r') k' j')
    rw [if_neg (fun z => absurd z.1 (by decide)), if_neg (fun z => absurd z.1 (by decide)), pm_w]
theorem pm_stp (r k : Nat) : mStp (pm q A) r k = pm q (mStp A r k) := by
  show (bif mStop A r k then mStpT (pm q A) r k 16 else pm q A) = _
  rw [pm_stpT, pm_bif]
  rfl
theorem pm_fin0 (h : pq p q) (w x : Nat) (b : Bool) : mFin0 (pm q A) (p w) x b = pm q (mFin0 A w x b) := by
  show (bif b then mSto (mUpp (mFre (pm q A) (p w)) 40 x 3) (pR x) (pK x) else bif Nat.beq (mU A 11 (pR x)) 7 && !(mStop A (pR x) (pK x)) && Nat.blt (mJp A 2 x) (mS A 5 (pK x)) then ((mUpp (mUpp (mFre (pm q A) (p w)) 42 x (mJp A 2 x + 1)) 40 x 1).1, mQ A ++ [x], mE A) else mStp (mUpp (mFre (pm q A) (p w)) 40 x 4) (pR x) (pK x)) = _
  rw [pm_fre h, pm_upp (f := 40) (v := 3) (by decide), pm_upp (f := 42) (by decide), pm_upp (f := 40) (v := 1) (by decide), pm_upp (f := 40) (v := 4) (by decide), pm_sto, pm_2, pm_stp, pm_bif, pm_bif]
  rfl
theorem pm_los0 (h : pq p q) (w x : Nat) : mLos0 (pm q A) (p w) x = pm q (mLos0 A w x) := by
  show (bif Nat.beq (mU A 11 (pR x)) 7 && !(mStop A (pR x) (pK x)) then ((mUpp (mFre (pm q A) (p w)) 40 x 1).1, mQ A ++ [x], mE A) else mUpp (mFre (pm q A) (p w)) 40 x (bif Nat.beq (mU A 11 (pR x)) 7 then 7 else 5)) = _
  rw [pm_fre h, pm_upp (v := 1) (by decide), pm_upp (by decide), pm_2, pm_bif]
  rfl
theorem pm_new (b x y z : Nat) : mNew (pm q A) b x y z = pm q (mNew A b x y z) := by
  have e1 : ∀ f k j, 11 ≤ f → f ≤ 43 → mNv (pm q A) b x y z f k j = mNv A b x y z f k j := fun f k j h1 h2 => by
    unfold mNv
    rw [show mS (pm q A) (f - 20) k = mS A (f - 20) k from pm_f (by omega) _ _ _]
    rfl
  refine pm_ext (fun f' r' k' j' h => ?_) (fun r' k' j' => ?_) rfl
  · show (if f' = 10 ∧ r' = 0 ∧ k' = 0 ∧ j' = 0 then mR A + 1 else if r' = mR A ∧ 11 ≤ f' ∧ f' ≤ 43 then mNv (pm q A) b x y z f' k' j' else (pm q A).1 f' r' k' j') = (if f' = 10 ∧ r' = 0 ∧ k' = 0 ∧ j' = 0 then mR A + 1 else if r' = mR A ∧ 11 ≤ f' ∧ f' ≤ 43 then mNv A b x y z f' k' j' else A.1 f' r' k' j')
    rw [pm_f h]
    by_cases c : r' = mR A ∧ 11 ≤ f' ∧ f' ≤ 43
    · rw [if_pos c, if_pos c, e1 f' k' j' c.2.1 c.2.2]
    · rw [if_neg c, if_neg c]
  · show (if 50 = 10 ∧ r' = 0 ∧ k' = 0 ∧ j' = 0 then mR A + 1 else if r' = mR A ∧ 11 ≤ 50 ∧ 50 ≤ 43 then mNv (pm q A) b x y z 50 k' j' else (pm q A).1 50 r' k' j') = (if 50 = 10 ∧ q r' = 0 ∧ k' = 0 ∧ j' = 0 then mR A + 1 else if q r' = mR A ∧ 11 ≤ 50 ∧ 50 ≤ 43 then mNv A b x y z 50 k' j' else A.1 50 (q r') k' j')
    rw [if_neg (c := 50 = 10 ∧ _) (fun z => absurd z.1 (by decide)), if_neg (c := 50 = 10 ∧ _) (fun z => absurd z.1 (by decide)), if_neg (fun z => absurd z.2.2 (by decide)), if_neg (fun z => absurd z.2.2 (by decide)), pm_w]
theorem pm_old (b : Nat) : ∀ n, mOld (pm q A) b n = pm q (mOld A b n) := by
  intro n
  induction n with
  | zero => rfl
  | succ n ih =>
    show (bif Nat.beq (mU (mOld (pm q A) b n) 11 n) 7 && Nat.beq (mU (mOld (pm q A) b n) 12 n) b then mFol (mCan (mOld (pm q A) b n) n) n else mOld (pm q A) b n) = _
    rw [ih, pm_can, pm_fol, pm_bif]
    rfl
theorem pm_push (b x y z : Nat) : mPush (pm q A) b x y z = pm q (mPush A b x y z) := by
  show mFol (mNew (mOld (pm q A) b (mR A)) b x y z) (mR A) = _
  rw [pm_old, pm_new, pm_fol]
  rfl
-- the calls
theorem op_addStage (x y : Int32) : oAddStage (pm q A) x y = opm q (oAddStage A x y) := by
  have e : ∀ a b, mAddS (pm q A) a b = pm q (mAddS A a b) := fun a b => by
    show mUp (mUp (mUp (mUp (pm q A) 1 (mN A) 0 0 a) 2 (mN A) 0 0 b) 9 (mN A) 0 0 1) 0 0 0 0 (mN A + 1) = _
    rw [pm_up (by decide), pm_up (by decide), pm_up (by decide), pm_up (by decide)]
    rfl
  show (bif in14 x && in14 y then (bif Nat.beq (mGo A) 0 && Nat.blt (mN A) 8 then ((0, nI (mN A)), mAddS (pm q A) x.toNatClampNeg y.toNatClampNeg) else ((2, 0), pm q A)) else ((1, 0), pm q A)) = _
  rw [e]
  exact (congrArg (fun t => bif in14 x && in14 y then t else ((1, 0), pm q A)) (opm_bif (o := ((0, nI (mN A)), mAddS A x.toNatClampNeg y.toNatClampNeg)) (o' := ((2, 0), A)))).trans (opm_bif (o' := ((1, 0), A)))
theorem op_need (x y : Int32) : oNeed (pm q A) x y = opm q (oNeed A x y) := by
  have e : ∀ k o, mNeed (pm q A) k o = pm q (mNeed A k o) := fun k o => pm_up (by decide) _ _ _ _
  have e2 : ∀ k o, needB (pm q A) k o = needB A k o := fun k o => by
    show (Nat.beq (mGo A) 0 && !(Nat.beq k o) && !(mBit (mS A 4 k) o) && !(mBit (mTurn (pm q A) (mS A 4 o) 8) k)) = _
    rw [pm_turn]
    rfl
  show (bif inB x (mN A) && inB y (mN A) then (bif needB (pm q A) x.toNatClampNeg y.toNatClampNeg then ((0, nI (ax_bc (mS A 4 x.toNatClampNeg ||| 2 ^ y.toNatClampNeg) 16)), mNeed (pm q A) x.toNatClampNeg y.toNatClampNeg) else ((2, 0), pm q A)) else ((1, 0), pm q A)) = _
  rw [e, e2]
  exact (congrArg (fun t => bif inB x (mN A) && inB y (mN A) then t else ((1, 0), pm q A)) (opm_bif (o := ((0, nI (ax_bc (mS A 4 x.toNatClampNeg ||| 2 ^ y.toNatClampNeg) 16)), mNeed A x.toNatClampNeg y.toNatClampNeg)) (o' := ((2, 0), A)))).trans (opm_bif (o' := ((1, 0), A)))
theorem op_setStage (x y z : Int32) : oSetStage (pm q A) x y z = opm q (oSetStage A x y z) := by
  have e : ∀ a b c, mSetS (pm q A) a b c = pm q (mSetS A a b c) := fun a b c => by
    show ((mUp (mUp (pm q A) 5 a 0 0 b) 6 a 0 0 c).1, mQ A, bif Nat.beq c (mS A 6 a) then mE A else mDrop A a) = _
    rw [pm_up (by decide), pm_up (by decide), pm_2]
    rfl
  show (bif inB x (mN A) then (bif in02 y && in03 z then (bif Nat.beq (mGo A) 0 then ((0, nI ((mE A).length - (mE (mSetS (pm q A) x.toNatClampNeg y.toNatClampNeg z.toNatClampNeg)).length)), mSetS (pm q A) x.toNatClampNeg y.toNatClampNeg z.toNatClampNeg) else ((3, 0), pm q A)) else ((2, 0), pm q A)) else ((1, 0), pm q A)) = _
  rw [e]
  refine Eq.trans (congrArg (fun t => bif inB x (mN A) then (bif in02 y && in03 z then t else ((2, 0), pm q A)) else ((1, 0), pm q A)) (opm_bif (o := ((0, nI ((mE A).length - (mE (mSetS A x.toNatClampNeg y.toNatClampNeg z.toNatClampNeg)).length)), mSetS A x.toNatClampNeg y.toNatClampNeg z.toNatClampNeg)) (o' := ((3, 0), A)))) ?_
  exact (congrArg (fun t => bif inB x (mN A) then t else ((1, 0), pm q A)) (opm_bif (o' := ((2, 0), A)))).trans (opm_bif (o' := ((1, 0), A)))
theorem op_setMarks (x : Int32) (f c i : Bool) : oSetMarks (pm q A) x f c i = opm q (oSetMarks A x f c i) := by
  have e : ∀ k, mSetM (pm q A) k f c i = pm q (mSetM A k f c i) := fun k => by
    show mUp (mUp (mUp (pm q A) 7 k 0 0 (b01 f)) 8 k 0 0 (b01 c)) 9 k 0 0 (b01 i) = _
    rw [pm_up (by decide), pm_up (by decide), pm_up (by decide)]
    rfl
  show (bif inB x (mN A) then (bif Nat.beq (mGo A) 0 then ((0, 0), mSetM (pm q A) x.toNatClampNeg f c i) else ((2, 0), pm q A)) else ((1, 0), pm q A)) = _
  rw [e]
  exact (congrArg (fun t => bif inB x (mN A) then t else ((1, 0), pm q A)) (opm_bif (o := ((0, 0), mSetM A x.toNatClampNeg f c i)) (o' := ((2, 0), A)))).trans (opm_bif (o' := ((1, 0), A)))
theorem op_push (b x y z : Int32) : oPush (pm q A) b x y z = opm q (oPush A b x y z) := by
  show (bif inB b 4 then (bif inI x && inI y && inI z then (bif pushB A then ((0, nI (mR A)), mPush (pm q A) b.toNatClampNeg x.toNatClampNeg y.toNatClampNeg z.toNatClampNeg) else ((3, 0), pm q A)) else ((2, 0), pm q A)) else ((1, 0), pm q A)) = _
  rw [pm_push]
  refine Eq.trans (congrArg (fun t => bif inB b 4 then (bif inI x && inI y && inI z then t else ((2, 0), pm q A)) else ((1, 0), pm q A)) (opm_bif (o := ((0, nI (mR A)), mPush A b.toNatClampNeg x.toNatClampNeg y.toNatClampNeg z.toNatClampNeg)) (o' := ((3, 0), A)))) ?_
  exact (congrArg (fun t => bif inB b 4 then t else ((1, 0), pm q A)) (opm_bif (o' := ((2, 0), A)))).trans (opm_bif (o' := ((1, 0), A)))
theorem op_cancel (x : Int32) : oCancel (pm q A) x = opm q (oCancel A x) := by
  show (bif inB x (mR A) then (bif Nat.beq (mU A 11 x.toNatClampNeg) 7 then ((0, nI (mCn A x.toNatClampNeg (16 * mU A 16 x.toNatClampNeg))), mFol (mCan (pm q A) x.toNatClampNeg) x.toNatClampNeg) else ((2, 0), pm q A)) else ((1, 0), pm q A)) = _
  rw [pm_can, pm_fol]
  exact (congrArg (fun t => bif inB x (mR A) then t else ((1, 0), pm q A)) (opm_bif (o := ((0, nI (mCn A x.toNatClampNeg (16 * mU A 16 x.toNatClampNeg))), mFol (mCan A x.toNatClampNeg) x.toNatClampNeg)) (o' := ((2, 0), A)))).trans (opm_bif (o' := ((1, 0), A)))
theorem pm_wa (h : pq p q) (w : Nat) : mW (pm q A) (p w) = mW A w := by
  rw [show mW (pm q A) (p w) = mW A (q (p w)) from pm_w _ _ _, h.1]
theorem inB4 {w : Nat} (hw : w < 4) : inB (nI w) 4 = true := by
  have e : w = 0 ∨ w = 1 ∨ w = 2 ∨ w = 3 := by omega
  rcases e with rfl | rfl | rfl | rfl <;> decide
theorem op_take (h : pq p q) {w : Nat} (hw : w < 4) (hp : p w < 4) : oTake (pm q A) (nI (p w)) = opm q (oTake A (nI w)) := by
  unfold oTake
  rw [inB4 hw, inB4 hp, nI_clamp (show w < 2 ^ 31 by omega), nI_clamp (show p w < 2 ^ 31 by omega), pm_wa h]
  show (bif Nat.beq (mW A w) 0 then (bif Nat.beq (mQ A).length 0 then ((0, -1), pm q A) else ((0, nI (pJ ((mQ A).getD 0 0))), mRes (mTk (pm q A) (p w) ((mQ A).getD 0 0)) (pR ((mQ A).getD 0 0)) (pK ((mQ A).getD 0 0)) (pJ ((mQ A).getD 0 0)))) else ((2, 0), pm q A)) = _
  rw [pm_tk h, pm_res]
  exact (congrArg (fun t => bif Nat.beq (mW A w) 0 then t else ((2, 0), pm q A)) (opm_bif (o := ((0, -1), A)) (o' := ((0, nI (pJ ((mQ A).getD 0 0))), mRes (mTk A w ((mQ A).getD 0 0)) (pR ((mQ A).getD 0 0)) (pK ((mQ A).getD 0 0)) (pJ ((mQ A).getD 0 0)))))).trans (opm_bif (o' := ((2, 0), A)))
theorem op_finish (h : pq p q) {w : Nat} (hw : w < 4) (hp : p w < 4) (b : Bool) : oFinish (pm q A) (nI (p w)) b = opm q (oFinish A (nI w) b) := by
  unfold oFinish
  rw [inB4 hw, inB4 hp, nI_clamp (show w < 2 ^ 31 by omega), nI_clamp (show p w < 2 ^ 31 by omega), pm_wa h, pm_fin0 h, pm_fol]
  exact opm_bif (o := ((2, 0), A)) (o' := ((0, nI (mSt (mJp (mFin0 A w (mW A w - 1) b) 0 (mW A w - 1)))), mFol (mFin0 A w (mW A w - 1) b) (pR (mW A w - 1))))
theorem op_lose (h : pq p q) {w : Nat} (hw : w < 4) (hp : p w < 4) : oLose (pm q A) (nI (p w)) = opm q (oLose A (nI w)) := by
  unfold oLose
  rw [inB4 hw, inB4 hp, nI_clamp (show w < 2 ^ 31 by omega), nI_clamp (show p w < 2 ^ 31 by omega), pm_wa h, pm_los0 h, pm_fol]
  exact opm_bif (o := ((2, 0), A)) (o' := ((0, nI (mSt (mJp (mLos0 A w (mW A w - 1)) 0 (mW A w - 1)))), mFol (mLos0 A w (mW A w - 1)) (pR (mW A w - 1))))
theorem op_wRun (h : pq p q) {w : Nat} (hw : w < 4) (hp : p w < 4) : (oWRun (pm q A) (nI (p w))).1 = (oWRun A (nI w)).1 := by
  unfold oWRun
  rw [inB4 hw, inB4 hp, nI_clamp (show w < 2 ^ 31 by omega), nI_clamp (show p w < 2 ^ 31 by omega), pm_wa h]
  rfl
theorem op_wStage (h : pq p q) {w : Nat} (hw : w < 4) (hp : p w < 4) : (oWStage (pm q A) (nI (p w))).1 = (oWStage A (nI w)).1 := by
  unfold oWStage
  rw [inB4 hw, inB4 hp, nI_clamp (show w < 2 ^ 31 by omega), nI_clamp (show p w < 2 ^ 31 by omega), pm_wa h]
  rfl
theorem bif_1 {c : Bool} {o o' u u' : OC} (h1 : o.1 = u.1) (h2 : o'.1 = u'.1) : (bif c then o else o').1 = (bif c then u else u').1 := by
  cases c
  · exact h2
  · exact h1
theorem op_state (x : Int32) : (oState (pm q A) x).1 = (oState A x).1 := bif_1 rfl rfl
theorem op_jobState (x y z : Int32) : (oJobState (pm q A) x y z).1 = (oJobState A x y z).1 := bif_1 rfl rfl
theorem op_attempts (x y z : Int32) : (oAttempts (pm q A) x y z).1 = (oAttempts A x y z).1 := bif_1 rfl rfl
theorem op_restored (x y z : Int32) : (oRestored (pm q A) x y z).1 = (oRestored A x y z).1 := bif_1 rfl rfl
theorem op_qRun (x : Int32) : (oQRun (pm q A) x).1 = (oQRun A x).1 := bif_1 rfl rfl
theorem op_qStage (x : Int32) : (oQStage (pm q A) x).1 = (oQStage A x).1 := bif_1 rfl rfl
theorem op_eStage (x : Int32) : (oEStage (pm q A) x).1 = (oEStage A x).1 := bif_1 rfl rfl
theorem op_eInput (x y : Int32) : (oEInput (pm q A) x y).1 = (oEInput A x y).1 := bif_1 rfl rfl
end
end AXPM
