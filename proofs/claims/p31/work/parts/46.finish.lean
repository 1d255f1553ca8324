/-! take, finish, lose: the reference. -/
section AXMT
/-- the worker w is free -/
abbrev mFre (A : MS) (w : Nat) : MS := mUp A 50 w 0 0 0
/-- the first t queued jobs of a stage are stopped -/
def mStx (A : MS) (r k t p : Nat) : Bool := Nat.beq (pR p) r && Nat.beq (pK p) k && Nat.blt (pJ p) t && Nat.beq (mJp A 0 p) 1
def mStpT (A : MS) (r k t : Nat) : MS :=
  (fun f r' k' j' => if f = 40 ∧ k' < 8 ∧ j' < 16 ∧ mStx A r k t (pl r' k' j') = true then 7 else A.1 f r' k' j', (mQ A).filter (fun p => !(mStx A r k t p)), mE A)
def mStp (A : MS) (r k : Nat) : MS := bif mStop A r k then mStpT A r k 16 else A
def mFin0 (A : MS) (w p : Nat) (b : Bool) : MS :=
  bif b then mSto (mUpp (mFre A w) 40 p 3) (pR p) (pK p) else
  bif Nat.beq (mU A 11 (pR p)) 7 && !(mStop A (pR p) (pK p)) && Nat.blt (mJp A 2 p) (mS A 5 (pK p)) then ((mUpp (mUpp (mFre A w) 42 p (mJp A 2 p + 1)) 40 p 1).1, mQ A ++ [p], mE A) else
  mStp (mUpp (mFre A w) 40 p 4) (pR p) (pK p)
def mLos0 (A : MS) (w p : Nat) : MS :=
  bif Nat.beq (mU A 11 (pR p)) 7 && !(mStop A (pR p) (pK p)) then ((mUpp (mFre A w) 40 p 1).1, mQ A ++ [p], mE A) else
  mUpp (mFre A w) 40 p (bif Nat.beq (mU A 11 (pR p)) 7 then 7 else 5)
def oFinish (A : MS) (x : Int32) (b : Bool) : OC := bif inB x 4 then (bif Nat.beq (mW A x.toNatClampNeg) 0 then ((2, 0), A) else ((0, nI (mSt (mJp (mFin0 A x.toNatClampNeg (mW A x.toNatClampNeg - 1) b) 0 (mW A x.toNatClampNeg - 1)))), mFol (mFin0 A x.toNatClampNeg (mW A x.toNatClampNeg - 1) b) (pR (mW A x.toNatClampNeg - 1)))) else ((1, 0), A)
def oLose (A : MS) (x : Int32) : OC := bif inB x 4 then (bif Nat.beq (mW A x.toNatClampNeg) 0 then ((2, 0), A) else ((0, nI (mSt (mJp (mLos0 A x.toNatClampNeg (mW A x.toNatClampNeg - 1)) 0 (mW A x.toNatClampNeg - 1)))), mFol (mLos0 A x.toNatClampNeg (mW A x.toNatClampNeg - 1)) (pR (mW A x.toNatClampNeg - 1)))) else ((1, 0), A)
theorem mStpT_f (A : MS) {r k t f : Nat} (h : f ≠ 40) (r' k' j' : Nat) : (mStpT A r k t).1 f r' k' j' = A.1 f r' k' j' := if_neg fun z => h z.1
theorem mStpT_J (A : MS) {r k t r' k' j' : Nat} (hk : k' < 8) (hj : j' < 16) : mJ (mStpT A r k t) 0 r' k' j' = if mStx A r k t (pl r' k' j') = true then 7 else mJ A 0 r' k' j' := by
  show (if (40 : Nat) = 40 ∧ k' < 8 ∧ j' < 16 ∧ mStx A r k t (pl r' k' j') = true then 7 else A.1 40 r' k' j') = _
  by_cases z : mStx A r k t (pl r' k' j') = true
  · rw [if_pos ⟨rfl, hk, hj, z⟩, if_pos z]
  · rw [if_neg (fun w => z w.2.2.2), if_neg z]
theorem mStpT_J' (A : MS) {r k t r' k' j' : Nat} (h : ¬ (k' < 8 ∧ j' < 16)) : mJ (mStpT A r k t) 0 r' k' j' = mJ A 0 r' k' j' := if_neg fun w => h ⟨w.2.1, w.2.2.1⟩
theorem mStpT_p (A : MS) (r k t p : Nat) : mJp (mStpT A r k t) 0 p = if mStx A r k t p = true then 7 else mJp A 0 p := by
  obtain ⟨p1, p2, p3⟩ := pl_of p
  have := mStpT_J A (r := r) (k := k) (t := t) (r' := pR p) p2 p3
  rw [p1] at this
  exact this
theorem mStx_0 (A : MS) (r k p : Nat) : mStx A r k 0 p = false := by
  unfold mStx
  rw [show Nat.blt (pJ p) 0 = false from rfl, Bool.and_false, Bool.false_and]
theorem mStpT_0 (A : MS) (r k : Nat) : mStpT A r k 0 = A := by
  refine Prod.ext ?_ (Prod.ext ?_ rfl)
  · funext f r' k' j'
    exact if_neg fun z => by rw [mStx_0] at z; exact absurd z.2.2.2 (by decide)
  · show (mQ A).filter (fun p => !(mStx A r k 0 p)) = mQ A
    refine List.filter_eq_self.mpr fun p _ => ?_
    rw [mStx_0]; rfl
theorem mStx_succ {A : MS} {r k j p : Nat} (hk : k < 8) (hj : j < 16) : mStx A r k (j + 1) p = (mStx A r k j p || (Nat.beq p (pl r k j) && Nat.beq (mJ A 0 r k j) 1)) := by
  by_cases z : p = pl r k j
  · obtain ⟨p1, p2, p3⟩ := (pl_eq hk hj).mp z
    unfold mStx mJp
    rw [p1, p2, p3, z, Nat.beq_refl, Nat.beq_refl, Nat.beq_refl, Nat.blt_eq.mpr (Nat.lt_succ_self _), not_true_b (fun w => Nat.lt_irrefl _ (Nat.blt_eq.mp w))]
    cases Nat.beq (mJ A 0 r k j) 1 <;> rfl
  · rw [nb_ne z]
    have hz := mt (pl_eq (p := p) (r := r) hk hj).mpr z
    unfold mStx
    cases e1 : Nat.beq (pR p) r with
    | false => rfl
    | true =>
      cases e2 : Nat.beq (pK p) k with
      | false => rfl
      | true =>
        have e3 : Nat.blt (pJ p) (j + 1) = Nat.blt (pJ p) j := by
          rw [Bool.eq_iff_iff, Nat.blt_eq, Nat.blt_eq]
          have h1 : pJ p ≠ j := fun w => hz ⟨ax_beq e1, ax_beq e2, w⟩
          omega
        rw [e3]
        simp
theorem mStpT_no {A : MS} {r k j : Nat} (hk : k < 8) (hj : j < 16) (h : mJ A 0 r k j ≠ 1) : mStpT A r k (j + 1) = mStpT A r k j := by
  have e : ∀ p, mStx A r k (j + 1) p = mStx A r k j p := fun p => by rw [mStx_succ hk hj, nb_ne h, Bool.and_false, Bool.or_false]
  unfold mStpT
  simp only [e]
theorem mStpT_yes {A : MS} {r k j : Nat} (hk : k < 8) (hj : j < 16) (h : mJ A 0 r k j = 1) : mStpT A r k (j + 1) = ((mUp (mStpT A r k j) 40 r k j 7).1, (mQ (mUp (mStpT A r k j) 40 r k j 7)).filter (fun x => !(Nat.beq x (pl r k j))), mE A) := by
  refine Prod.ext ?_ (Prod.ext ?_ rfl)
  · funext f r' k' j'
    show (mStpT A r k (j + 1)).1 f r' k' j' = (mUp (mStpT A r k j) 40 r k j 7).1 f r' k' j'
    by_cases h40 : f = 40
    · subst h40
      by_cases z : r' = r ∧ k' = k ∧ j' = j
      · obtain ⟨rfl, rfl, rfl⟩ := z
        rw [mUp_at]
        refine (mStpT_J A hk hj).trans (if_pos ?_)
        rw [mStx_succ hk hj, Nat.beq_refl, h]
        simp
      · rw [mUp_ne _ z]
        by_cases q : k' < 8 ∧ j' < 16
        · refine (mStpT_J A q.1 q.2).trans (Eq.trans ?_ (mStpT_J A q.1 q.2).symm)
          rw [mStx_succ hk hj, nb_ne (fun w => z ?_)]
          · simp
          · obtain ⟨e1, e2, e3⟩ := (pl_eq hk hj).mp w
            obtain ⟨g1, g2, g3⟩ := pl_parts (r := r') q.1 q.2
            exact ⟨g1.symm.trans e1, g2.symm.trans e2, g3.symm.trans e3⟩
        · exact (mStpT_J' A q).trans (mStpT_J' A q).symm
    · rw [mUp_f _ h40, mStpT_f A h40, mStpT_f A h40]
  · show (mQ A).filter (fun p => !(mStx A r k (j + 1) p)) = ((mQ A).filter (fun p => !(mStx A r k j p))).filter (fun x => !(Nat.beq x (pl r k j)))
    rw [List.filter_filter]
    refine List.filter_congr fun p _ => ?_
    rw [mStx_succ hk hj, h]
    cases mStx A r k j p <;> cases Nat.beq p (pl r k j) <;> rfl
section
variable {A : MS} {r k : Nat}
theorem mB_stpT (h : mB A) {t : Nat} : mB (mStpT A r k t) := by
  refine mB_cong (fun f r' k' j' a b => mStpT_f A (by omega) r' k' j') (fun r' hr' => ?_) (fun r' k' j' hr' => ?_) h
  · rw [show mU (mStpT A r k t) 11 r' = mU A 11 r' from mStpT_f A (by decide) r' 0 0]
    exact (h.2.2.2.2.1 r' hr').1
  · obtain ⟨h1, h2, h3⟩ := h.2.2.2.2.2 r' k' j' hr'
    refine ⟨?_, ?_, ?_⟩
    · by_cases q : k' < 8 ∧ j' < 16
      · rw [mStpT_J A q.1 q.2]
        split
        · decide
        · exact h1
      · rw [mStpT_J' A q]; exact h1
    · rw [show mJ (mStpT A r k t) 2 r' k' j' = mJ A 2 r' k' j' from mStpT_f A (by decide) r' k' j']; exact h2
    · rw [show mJ (mStpT A r k t) 3 r' k' j' = mJ A 3 r' k' j' from mStpT_f A (by decide) r' k' j']; exact h3
theorem mStop_stpT {t : Nat} (hk : k < 8) : mStop (mStpT A r k t) r k = mStop A r k := by
  unfold mStop
  rw [show mS (mStpT A r k t) 7 k = mS A 7 k from mStpT_f A (by decide) k 0 0]
  have e : mCnt (mStpT A r k t) r k 4 = mCnt A r k 4 := ax_n_cong fun j hj => by
    rw [mStpT_J A hk hj]
    split
    · rename_i z
      unfold mStx at z
      simp only [Bool.and_eq_true] at z
      obtain ⟨p1, p2, p3⟩ := pl_parts (r := r) hk hj
      have z2 := ax_beq z.2
      unfold mJp at z2
      rw [show pR (pl r k j) = r from p1, show pK (pl r k j) = k from p2, show pJ (pl r k j) = j from p3] at z2
      rw [z2]; rfl
    · rfl
  rw [e]
theorem mJJ_stpT (h : mJJ A) (t : Nat) : mJJ (mStpT A r k t) := by
  obtain ⟨⟨hB, hP, hN⟩, hGo, hQ, hW, hJ, hE, h60⟩ := id h
  have lo : ∀ f r' k' j', f < 40 → f ≠ 11 → (mStpT A r k t).1 f r' k' j' = A.1 f r' k' j' := fun f r' k' j' a _ => mStpT_f A (by omega) r' k' j'
  have e11 : ∀ r', mU (mStpT A r k t) 11 r' = mU A 11 r' := fun r' => mStpT_f A (by decide) r' 0 0
  have eG : ∀ r', mG (mStpT A r k t) r' ↔ mG A r' := fun r' => by unfold mG; rw [e11]
  have e50 : ∀ w, mW (mStpT A r k t) w = mW A w := fun w => mStpT_f A (by decide) w 0 0
  have key : ∀ r' k' j', mJ (mStpT A r k t) 0 r' k' j' = mJ A 0 r' k' j' ∨ (mJ (mStpT A r k t) 0 r' k' j' = 7 ∧ mJ A 0 r' k' j' = 1) := fun r' k' j' => by
    by_cases q : k' < 8 ∧ j' < 16
    · rw [mStpT_J A q.1 q.2]
      split
      · rename_i z
        right
        refine ⟨rfl, ?_⟩
        unfold mStx at z
        simp only [Bool.and_eq_true] at z
        obtain ⟨p1, p2, p3⟩ := pl_parts (r := r') q.1 q.2
        have z2 := ax_beq z.2
        unfold mJp at z2
        rw [show pR (pl r' k' j') = r' from p1, show pK (pl r' k' j') = k' from p2, show pJ (pl r' k' j') = j' from p3] at z2
        exact z2
      · exact Or.inl rfl
    · exact Or.inl (mStpT_J' A q)
  refine ⟨⟨mB_stpT hB, mPB_cong lo hP, mNow_cong lo (fun r' _ z => (eG r').mp z) hN⟩, ?_, ⟨List.Nodup.sublist List.filter_sublist hQ.1, fun p hp => ?_⟩, ⟨fun w hw => ?_, fun w v h1 h2 => ?_, fun w p h1 => ?_⟩, ⟨fun r' k' j' hr' hk' => ?_, fun r' k' j' hr' h8 hj' => ?_, fun r' k' j1 j2 hr' h1 h2 h3 => ?_⟩, mEB_cong lo rfl hE, (mStpT_f A (by decide) 0 0 0).trans h60⟩
  · rw [mGo_cong (A := A) (lo 10 0 0 0 (by decide) (by decide)) (fun r' _ => by unfold mGb; rw [e11])]
    exact hGo
  · have hp : p ∈ (mQ A).filter (fun p => !(mStx A r k t p)) := hp
    rw [List.mem_filter] at hp
    obtain ⟨h1, h2, h3⟩ := hQ.2 p hp.1
    refine ⟨h1, (eG _).mpr h2, ?_⟩
    have := mStpT_p A r k t p
    rw [if_neg (fun z => by rw [z] at hp; exact absurd hp.2 (by decide))] at this
    exact this.trans h3
  · rw [e50]; exact hW.1 w hw
  · rw [e50] at h1 h2
    rw [e50] at h2
    exact hW.2.1 w v h1 h2
  · rw [e50] at h1
    obtain ⟨g1, g2, g3⟩ := hW.2.2 w p h1
    refine ⟨g1, (eG _).mpr g2, ?_⟩
    rcases key (pR p) (pK p) (pJ p) with q | q
    · rw [q]; exact g3
    · rw [g3] at q; exact absurd q.2 (by decide)
  · rw [show mU (mStpT A r k t) 16 r' = mU A 16 r' from mStpT_f A (by decide) r' 0 0] at hk'
    have h8 := hJ.1 r' k' j' hr' hk'
    rcases key r' k' j' with q | q
    · rw [q]; exact h8
    · rw [h8] at q; exact absurd q.2 (by decide)
  · rw [e11] at h8
    have h1 := hJ.2.1 r' k' j' hr' h8 hj'
    rcases key r' k' j' with q | q
    · rw [q]; exact h1
    · exact absurd q.2 h1.2
  · have h4 : mJ A 0 r' k' j1 = 0 := by
      rcases key r' k' j1 with q | q
      · rw [← q]; exact h3
      · rw [q.1] at h3; cases h3
    rcases hJ.2.2 r' k' j1 j2 hr' h1 h2 h4 with q | q
    · rcases key r' k' j2 with y | y
      · rw [y]; exact Or.inl q
      · rw [q] at y; exact absurd y.2 (by decide)
    · rcases key r' k' j2 with y | y
      · rw [y]; exact Or.inr q
      · rw [q] at y; exact absurd y.2 (by decide)
theorem mJJ_stp (h : mJJ A) : mJJ (mStp A r k) := by
  unfold mStp
  cases mStop A r k
  · exact h
  · exact mJJ_stpT h 16
theorem mT_stp {n : Nat} (h : mTn A n) : mTn (mStp A r k) n := by
  unfold mStp
  cases mStop A r k
  · exact h
  · exact fun r' k' j' => by
      show mJ (mStpT A r k 16) 1 r' k' j' ≤ n
      rw [show mJ (mStpT A r k 16) 1 r' k' j' = mJ A 1 r' k' j' from mStpT_f A (by decide) r' k' j']
      exact h r' k' j'
/-- the worker w gives its job back, which has another state -/
theorem mJJ_give (h : mJJ A) {w p s : Nat} (hw : mW A w = p + 1) (hs : 2 ≤ s ∧ s ≤ 7) (hs2 : s ≠ 2) : mJJ (mUpp (mFre A w) 40 p s) := by
  obtain ⟨⟨hB, hP, hN⟩, hGo, hQ, hW, hJ, hE, h60⟩ := id h
  obtain ⟨p1, p2, p3⟩ := hW.2.2 w p hw
  have lo : ∀ f r k j, f < 40 → (mUpp (mFre A w) 40 p s).1 f r k j = A.1 f r k j := fun f r k j a => (mUp_f _ (by omega) r k j).trans (mUp_f _ (by omega) r k j)
  have e0 : mJp (mUpp (mFre A w) 40 p s) 0 p = s := mUp_at _ 40 (pR p) (pK p) (pJ p) s
  have e1 : ∀ q, q ≠ p → mJp (mUpp (mFre A w) 40 p s) 0 q = mJp A 0 q := fun q hq => (mUp_ne _ (fun z => hq (by rw [← (pl_of q).1, ← (pl_of p).1, z.1, z.2.1, z.2.2]))).trans (mUp_f _ (by decide) (pR q) (pK q) (pJ q))
  have e50 : ∀ v, mW (mUpp (mFre A w) 40 p s) v = if v = w then 0 else mW A v := fun v => by
    show (mUp A 50 w 0 0 0).1 50 v 0 0 = _
    by_cases z : v = w
    · rw [if_pos z, z, mUp_at]
    · rw [if_neg z, mUp_ne _ (fun y => z y.1)]
  have ho : mJp A 0 p ≠ 0 ∧ mJp A 0 p ≠ 8 := by
    show mJ A 0 (pR p) (pK p) (pJ p) ≠ 0 ∧ mJ A 0 (pR p) (pK p) (pJ p) ≠ 8
    rw [p3]; exact ⟨by decide, by decide⟩
  refine mJJ_one h (s := s) p1 ⟨by omega, hs.2⟩ ho lo e0 e1 (fun r k j z => ?_) (fun r k j hr => ⟨(hB.2.2.2.2.2 r k j hr).2.1, (hB.2.2.2.2.2 r k j hr).2.2⟩) (fun _ => by omega) (mEB_cong (fun f r k j a _ => lo f r k j a) rfl hE) h60 ⟨hQ.1, fun x hx => ?_⟩ ⟨fun v hv => ?_, fun u v h1 h2 => ?_, fun v x hx => ?_⟩
  · refine (mUp_ne _ (fun y => z ?_)).trans (mUp_f _ (by decide) r k j)
    obtain ⟨_, rfl, rfl⟩ := y
    exact (pl_of p).2
  · obtain ⟨g1, g2, g3⟩ := hQ.2 x hx
    exact ⟨g1, g2, (e1 x (fun z => by rw [z, p3] at g3; cases g3)).trans g3⟩
  · rw [e50]
    split
    · rfl
    · exact hW.1 v hv
  · rw [e50] at h1 h2
    rw [e50] at h2
    by_cases z : u = w
    · rw [if_pos z] at h1; exact absurd rfl h1
    · rw [if_neg z] at h1 h2
      by_cases y : v = w
      · rw [if_pos y] at h2; exact absurd h2 h1
      · rw [if_neg y] at h2
        exact hW.2.1 u v h1 h2
  · rw [e50] at hx
    by_cases z : v = w
    · rw [if_pos z] at hx; cases hx
    · rw [if_neg z] at hx
      obtain ⟨g1, g2, g3⟩ := hW.2.2 v x hx
      refine ⟨g1, g2, (e1 x (fun y => z ?_)).trans g3⟩
      rw [y] at hx
      exact hW.2.1 v w (by omega) (hx.trans hw.symm)
/-- the worker w gives its job back, which is queued again -/
theorem mJJ_back (h : mJJ A) {w p : Nat} (hw : mW A w = p + 1) (h7 : mU A 11 (pR p) = 7) {f2 : Nat} (hf2 : f2 ≤ 2) : mJJ ((mUpp (mUpp (mFre A w) 42 p f2) 40 p 1).1, mQ A ++ [p], mE A) := by
  obtain ⟨⟨hB, hP, hN⟩, hGo, hQ, hW, hJ, hE, h60⟩ := id h
  obtain ⟨p1, p2, p3⟩ := hW.2.2 w p hw
  have nq : p ∉ mQ A := fun z => by
    have := (hQ.2 p z).2.2
    rw [p3] at this
    cases this
  have lo : ∀ f r k j, f < 40 → ((mUpp (mUpp (mFre A w) 42 p f2) 40 p 1).1, mQ A ++ [p], mE A).1 f r k j = A.1 f r k j := fun f r k j a => (mUp_f _ (by omega) r k j).trans ((mUp_f _ (by omega) r k j).trans (mUp_f _ (by omega) r k j))
  have e0 : mJp ((mUpp (mUpp (mFre A w) 42 p f2) 40 p 1).1, mQ A ++ [p], mE A) 0 p = 1 := mUp_at _ 40 (pR p) (pK p) (pJ p) 1
  have e1 : ∀ q, q ≠ p → mJp ((mUpp (mUpp (mFre A w) 42 p f2) 40 p 1).1, mQ A ++ [p], mE A) 0 q = mJp A 0 q := fun q hq => (mUp_ne _ (fun z => hq (by rw [← (pl_of q).1, ← (pl_of p).1, z.1, z.2.1, z.2.2]))).trans ((mUp_f _ (by decide) (pR q) (pK q) (pJ q)).trans (mUp_f _ (by decide) (pR q) (pK q) (pJ q)))
  have e50 : ∀ v, mW ((mUpp (mUpp (mFre A w) 42 p f2) 40 p 1).1, mQ A ++ [p], mE A) v = if v = w then 0 else mW A v := fun v => by
    show (mUp A 50 w 0 0 0).1 50 v 0 0 = _
    by_cases z : v = w
    · rw [if_pos z, z, mUp_at]
    · rw [if_neg z, mUp_ne _ (fun y => z y.1)]
  have ho : mJp A 0 p ≠ 0 ∧ mJp A 0 p ≠ 8 := by
    show mJ A 0 (pR p) (pK p) (pJ p) ≠ 0 ∧ mJ A 0 (pR p) (pK p) (pJ p) ≠ 8
    rw [p3]; exact ⟨by decide, by decide⟩
  refine mJJ_one h (s := 1) p1 (by decide) ho lo e0 e1 (fun r k j z => ?_) (fun r k j hr => ⟨?_, (hB.2.2.2.2.2 r k j hr).2.2⟩) (fun z => by rw [h7] at z; cases z) (mEB_cong (fun f r k j a _ => lo f r k j a) rfl hE) h60 ⟨?_, fun x hx => ?_⟩ ⟨fun v hv => ?_, fun u v h1 h2 => ?_, fun v x hx => ?_⟩
  · refine (mUp_ne _ (fun y => z ?_)).trans ((mUp_f _ (by decide) r k j).trans (mUp_f _ (by decide) r k j))
    obtain ⟨_, rfl, rfl⟩ := y
    exact (pl_of p).2
  · show (mUpp (mUpp (mFre A w) 42 p f2) 40 p 1).1 42 r k j ≤ 2
    rw [mUp_f _ (by decide)]
    by_cases z : r = pR p ∧ k = pK p ∧ j = pJ p
    · obtain ⟨rfl, rfl, rfl⟩ := z
      rw [mUp_at]; exact hf2
    · rw [mUp_ne _ z]; exact (hB.2.2.2.2.2 r k j hr).2.1
  · show (mQ A ++ [p]).Nodup
    rw [List.nodup_append]
    refine ⟨hQ.1, List.nodup_cons.mpr ⟨List.not_mem_nil, List.nodup_nil⟩, fun a ha b hb z => nq ?_⟩
    rw [List.mem_singleton.mp hb] at z
    rw [← z]; exact ha
  · have hx : x ∈ mQ A ++ [p] := hx
    rcases List.mem_append.mp hx with q | q
    · obtain ⟨g1, g2, g3⟩ := hQ.2 x q
      exact ⟨g1, g2, (e1 x (fun z => nq (by rw [← z]; exact q))).trans g3⟩
    · rw [List.mem_singleton.mp q]
      exact ⟨p1, p2, e0⟩
  · rw [e50]
    split
    · rfl
    · exact hW.1 v hv
  · rw [e50] at h1 h2
    rw [e50] at h2
    by_cases z : u = w
    · rw [if_pos z] at h1; exact absurd rfl h1
    · rw [if_neg z] at h1 h2
      by_cases y : v = w
      · rw [if_pos y] at h2; exact absurd h2 h1
      · rw [if_neg y] at h2
        exact hW.2.1 u v h1 h2
  · rw [e50] at hx
    by_cases z : v = w
    · rw [if_pos z] at hx; cases hx
    · rw [if_neg z] at hx
      obtain ⟨g1, g2, g3⟩ := hW.2.2 v x hx
      refine ⟨g1, g2, (e1 x (fun y => z ?_)).trans g3⟩
      rw [y] at hx
      exact hW.2.1 v w (by omega) (hx.trans hw.symm)
/-- an entry more -/
theorem mJJ_sto (h : mJJ A) (hr : r < mR A) (hk : k < mN A) : mJJ (mSto A r k) := by
  obtain ⟨⟨hB, hP, hN⟩, hGo, hQ, hW, hJ, hE, h60⟩ := id h
  unfold mSto
  cases q0 : Nat.beq (mS A 6 k) 0 with
  | true => exact h
  | false =>
    cases q1 : mHas A (k, mKey A r (mS A 6 k)) with
    | true => exact h
    | false =>
      have h6 := ax_bnq q0
      have h63 := (hB.2.2.1 k).2.1
      have hin := mInp_lt hB hr
      have hnew : mKey A r (mS A 6 k) < mPow (mS A 6 k) := by
        unfold mKey
        have e : mS A 6 k = 1 ∨ mS A 6 k = 2 ∨ mS A 6 k = 3 := by omega
        rcases e with e | e | e <;> rw [e]
        · show mInp A r / 10000 < 100
          omega
        · show mInp A r / 100 < 10000
          omega
        · show mInp A r / 1 < 1000000
          omega
      have hme : ∀ e, e ∈ mE A ++ [(k, mKey A r (mS A 6 k))] → e.1 < mN A ∧ 1 ≤ mS A 6 e.1 ∧ mS A 6 e.1 ≤ 3 ∧ e.2 < mPow (mS A 6 e.1) := fun e he => by
        rcases List.mem_append.mp he with q | q
        · exact hE.2 e q
        · rw [List.mem_singleton.mp q]
          exact ⟨hk, by show 1 ≤ mS A 6 k; omega, h63, hnew⟩
      have hlen : (mE A ++ [(k, mKey A r (mS A 6 k))]).length = (mE A).length + 1 := by rw [List.length_append]; rfl
      have hl := hE.1
      refine ⟨⟨hB, hP, hN⟩, hGo, hQ, hW, hJ, ?_, h60⟩
      cases q2 : Nat.blt 10 ((mE A).length + 1) with
      | true =>
        refine ⟨?_, fun e he => hme e (List.mem_of_mem_eraseIdx he)⟩
        show ((mE A ++ [(k, mKey A r (mS A 6 k))]).eraseIdx 0).length ≤ 10
        rw [List.length_eraseIdx_of_lt (by omega), hlen]
        omega
      | false =>
        refine ⟨?_, hme⟩
        show (mE A ++ [(k, mKey A r (mS A 6 k))]).length ≤ 10
        have : ¬ 10 < (mE A).length + 1 := fun z => by rw [Nat.blt_eq.mpr z] at q2; cases q2
        omega
theorem mR_sto : mR (mSto A r k) = mR A := by
  unfold mSto
  cases Nat.beq (mS A 6 k) 0
  · cases mHas A (k, mKey A r (mS A 6 k))
    · rfl
    · rfl
  · rfl
theorem mSto_1 : (mSto A r k).1 = A.1 := by
  unfold mSto
  cases Nat.beq (mS A 6 k) 0
  · cases mHas A (k, mKey A r (mS A 6 k))
    · rfl
    · rfl
  · rfl
theorem mJJ_fin0 (h : mJJ A) {w p : Nat} (hw : mW A w = p + 1) (b : Bool) : mJJ (mFin0 A w p b) := by
  obtain ⟨⟨hB, hP, hN⟩, hGo, hQ, hW, hJ, hE, h60⟩ := id h
  obtain ⟨p1, p2, p3⟩ := hW.2.2 w p hw
  unfold mFin0
  cases b with
  | true =>
    refine mJJ_sto (mJJ_give h hw (by decide) (by decide)) p1 ?_
    have hk : pK p < mU A 16 (pR p) := by
      rcases Nat.lt_or_ge (pK p) (mU A 16 (pR p)) with q | q
      · exact q
      · rw [hJ.1 _ _ (pJ p) p1 q] at p3; cases p3
    have := (hB.2.2.2.2.1 _ p1).2.2.2.2.2.2
    exact Nat.lt_of_lt_of_le hk this
  | false =>
    cases q : (Nat.beq (mU A 11 (pR p)) 7 && !(mStop A (pR p) (pK p)) && Nat.blt (mJp A 2 p) (mS A 5 (pK p))) with
    | true =>
      simp only [Bool.and_eq_true] at q
      have h1 := Nat.blt_eq.mp q.2
      have h2 := (hB.2.2.1 (pK p)).1
      exact mJJ_back h hw (ax_beq q.1.1) (by omega)
    | false => exact mJJ_stp (mJJ_give h hw (by decide) (by decide))
theorem mJJ_los0 (h : mJJ A) {w p : Nat} (hw : mW A w = p + 1) : mJJ (mLos0 A w p) := by
  obtain ⟨⟨hB, hP, hN⟩, hGo, hQ, hW, hJ, hE, h60⟩ := id h
  obtain ⟨p1, p2, p3⟩ := hW.2.2 w p hw
  unfold mLos0
  cases q : (Nat.beq (mU A 11 (pR p)) 7 && !(mStop A (pR p) (pK p))) with
  | true =>
    simp only [Bool.and_eq_true] at q
    have h1 := (hB.2.2.2.2.2 (pR p) (pK p) (pJ p) p1).2.1
    have h2 := mJJ_back h hw (ax_beq q.1) h1
    have e : (mUpp (mUpp (mFre A w) 42 p (mJ A 2 (pR p) (pK p) (pJ p))) 40 p 1).1 = (mUpp (mFre A w) 40 p 1).1 := by
      funext f r' k' j'
      by_cases z : f = 42 ∧ r' = pR p ∧ k' = pK p ∧ j' = pJ p
      · obtain ⟨rfl, rfl, rfl, rfl⟩ := z
        rw [mUp_f _ (by decide), mUp_at, mUp_f _ (by decide), mUp_f _ (by decide)]
      · show (if f = 40 ∧ r' = pR p ∧ k' = pK p ∧ j' = pJ p then 1 else (if f = 42 ∧ r' = pR p ∧ k' = pK p ∧ j' = pJ p then mJ A 2 (pR p) (pK p) (pJ p) else (mFre A w).1 f r' k' j')) = (if f = 40 ∧ r' = pR p ∧ k' = pK p ∧ j' = pJ p then 1 else (mFre A w).1 f r' k' j')
        rw [if_neg z]
    rw [e] at h2
    exact h2
  | false =>
    refine mJJ_give h hw ?_ ?_
    · cases Nat.beq (mU A 11 (pR p)) 7 <;> decide
    · cases Nat.beq (mU A 11 (pR p)) 7 <;> decide
end
end AXMT
