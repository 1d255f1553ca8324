/-! A run is cancelled. -/
section AXMR
/-- a job that is cancelled with its run -/
def mCc (A : MS) (r k j : Nat) : Bool := Nat.beq (mJ A 0 r k j) 0 || Nat.beq (mJ A 0 r k j) 1 || (Nat.beq (mJ A 0 r k j) 2 && Nat.beq (mP A 9 r k) 1)
/-- of the run r's first x jobs the place p is one that is cancelled -/
def mCx (A : MS) (r x p : Nat) : Bool := Nat.beq (pR p) r && Nat.blt (p % 128) x && mCc A r (pK p) (pJ p)
/-- the run r's first x jobs are cancelled -/
def mCanT (A : MS) (r x : Nat) : MS :=
  (fun f r' k' j' => if f = 40 ∧ k' < 8 ∧ j' < 16 ∧ mCx A r x (pl r' k' j') = true then 5 else if f = 50 ∧ mW A r' ≠ 0 ∧ mCx A r x (mW A r' - 1) = true then 0 else A.1 f r' k' j', (mQ A).filter (fun p => !(mCx A r x p)), mE A)
/-- how many jobs that are -/
def mCn (A : MS) (r x : Nat) : Nat := ax_n (fun y => mCc A r (y / 16) (y % 16)) x
def mCan (A : MS) (r : Nat) : MS := mUp (mCanT A r (16 * mU A 16 r)) 11 r 0 0 8
theorem mCanT_f (A : MS) {r x f : Nat} (h1 : f ≠ 40) (h2 : f ≠ 50) (r' k' j' : Nat) : (mCanT A r x).1 f r' k' j' = A.1 f r' k' j' := by
  show (if f = 40 ∧ k' < 8 ∧ j' < 16 ∧ mCx A r x (pl r' k' j') = true then 5 else if f = 50 ∧ mW A r' ≠ 0 ∧ mCx A r x (mW A r' - 1) = true then 0 else A.1 f r' k' j') = _
  rw [if_neg (fun z => h1 z.1), if_neg (fun z => h2 z.1)]
theorem mCanT_J (A : MS) {r x r' k' j' : Nat} (hk : k' < 8) (hj : j' < 16) : mJ (mCanT A r x) 0 r' k' j' = if mCx A r x (pl r' k' j') = true then 5 else mJ A 0 r' k' j' := by
  show (if (40 : Nat) = 40 ∧ k' < 8 ∧ j' < 16 ∧ mCx A r x (pl r' k' j') = true then 5 else if (40 : Nat) = 50 ∧ mW A r' ≠ 0 ∧ mCx A r x (mW A r' - 1) = true then 0 else A.1 40 r' k' j') = _
  by_cases z : mCx A r x (pl r' k' j') = true
  · rw [if_pos ⟨rfl, hk, hj, z⟩, if_pos z]
  · rw [if_neg (fun w => z w.2.2.2), if_neg (fun w => absurd w.1 (by decide)), if_neg z]
theorem mCanT_J' (A : MS) {r x r' k' j' : Nat} (h : ¬ (k' < 8 ∧ j' < 16)) : mJ (mCanT A r x) 0 r' k' j' = mJ A 0 r' k' j' := by
  show (if (40 : Nat) = 40 ∧ k' < 8 ∧ j' < 16 ∧ mCx A r x (pl r' k' j') = true then 5 else if (40 : Nat) = 50 ∧ mW A r' ≠ 0 ∧ mCx A r x (mW A r' - 1) = true then 0 else A.1 40 r' k' j') = _
  rw [if_neg (fun w => h ⟨w.2.1, w.2.2.1⟩), if_neg (fun w => absurd w.1 (by decide))]
theorem mCanT_W (A : MS) (r x w : Nat) : mW (mCanT A r x) w = if mW A w ≠ 0 ∧ mCx A r x (mW A w - 1) = true then 0 else mW A w := by
  show (if (50 : Nat) = 40 ∧ 0 < 8 ∧ 0 < 16 ∧ mCx A r x (pl w 0 0) = true then 5 else if (50 : Nat) = 50 ∧ mW A w ≠ 0 ∧ mCx A r x (mW A w - 1) = true then 0 else A.1 50 w 0 0) = _
  rw [if_neg (fun z => absurd z.1 (by decide))]
  by_cases z : mW A w ≠ 0 ∧ mCx A r x (mW A w - 1) = true
  · rw [if_pos ⟨rfl, z⟩, if_pos z]
  · rw [if_neg (fun q => z q.2), if_neg z]
theorem mCx_pl {A : MS} {r x r' k j : Nat} (hk : k < 8) (hj : j < 16) : mCx A r x (pl r' k j) = (Nat.beq r' r && Nat.blt (16 * k + j) x && mCc A r k j) := by
  obtain ⟨e1, e2, e3⟩ := pl_parts (r := r') hk hj
  have e4 : pl r' k j % 128 = 16 * k + j := by
    show (128 * r' + 16 * k + j) % 128 = _
    omega
  unfold mCx
  rw [show pR (pl r' k j) = r' from e1, show pK (pl r' k j) = k from e2, show pJ (pl r' k j) = j from e3, e4]
theorem mCx_0 (A : MS) (r p : Nat) : mCx A r 0 p = false := by
  unfold mCx
  rw [show Nat.blt (p % 128) 0 = false from rfl, Bool.and_false, Bool.false_and]
theorem mCanT_0 (A : MS) (r : Nat) : mCanT A r 0 = A := by
  refine Prod.ext ?_ (Prod.ext ?_ rfl)
  · funext f r' k' j'
    show (if f = 40 ∧ k' < 8 ∧ j' < 16 ∧ mCx A r 0 (pl r' k' j') = true then 5 else if f = 50 ∧ mW A r' ≠ 0 ∧ mCx A r 0 (mW A r' - 1) = true then 0 else A.1 f r' k' j') = _
    rw [if_neg (fun z => by rw [mCx_0] at z; exact absurd z.2.2.2 (by decide)), if_neg (fun z => by rw [mCx_0] at z; exact absurd z.2.2 (by decide))]
  · show (mQ A).filter (fun p => !(mCx A r 0 p)) = mQ A
    refine List.filter_eq_self.mpr fun p _ => ?_
    rw [mCx_0]; rfl
theorem mCx_succ {A : MS} {r k j p : Nat} (hk : k < 8) (hj : j < 16) : mCx A r (16 * k + j + 1) p = (mCx A r (16 * k + j) p || (Nat.beq p (pl r k j) && mCc A r k j)) := by
  by_cases z : p = pl r k j
  · rw [z, mCx_pl hk hj, mCx_pl hk hj, Nat.beq_refl, Nat.beq_refl, Nat.blt_eq.mpr (Nat.lt_succ_self _), not_true_b (fun w => Nat.lt_irrefl _ (Nat.blt_eq.mp w))]
    cases mCc A r k j <;> rfl
  · rw [nb_ne z]
    have hz := mt (pl_eq (p := p) (r := r) hk hj).mpr z
    unfold mCx
    cases e1 : Nat.beq (pR p) r with
    | false => rfl
    | true =>
      have e1 := ax_beq e1
      have e2 : Nat.blt (p % 128) (16 * k + j + 1) = Nat.blt (p % 128) (16 * k + j) := by
        rw [Bool.eq_iff_iff, Nat.blt_eq, Nat.blt_eq]
        have h1 : p % 128 ≠ 16 * k + j := fun w => hz ⟨e1, by show p % 128 / 16 = k; omega, by show p % 16 = j; omega⟩
        omega
      rw [e2]
      simp
theorem mCanT_no {A : MS} {r k j : Nat} (hk : k < 8) (hj : j < 16) (h : mCc A r k j = false) : mCanT A r (16 * k + j + 1) = mCanT A r (16 * k + j) := by
  have e : ∀ p, mCx A r (16 * k + j + 1) p = mCx A r (16 * k + j) p := fun p => by rw [mCx_succ hk hj, h, Bool.and_false, Bool.or_false]
  unfold mCanT
  simp only [e]
/-- the place p0 is cancelled: its state, the queue, the workers -/
theorem mCanT_yes1 {A : MS} {r k j : Nat} (hk : k < 8) (hj : j < 16) (h : mCc A r k j = true) (f r' k' j' : Nat) (hf : f ≠ 50) : (mCanT A r (16 * k + j + 1)).1 f r' k' j' = (mUp (mCanT A r (16 * k + j)) 40 r k j 5).1 f r' k' j' := by
  by_cases h40 : f = 40
  · subst h40
    by_cases z : r' = r ∧ k' = k ∧ j' = j
    · obtain ⟨rfl, rfl, rfl⟩ := z
      rw [mUp_at]
      refine (mCanT_J A hk hj).trans (if_pos ?_)
      rw [mCx_succ hk hj, Nat.beq_refl, h]
      simp
    · rw [mUp_ne _ z]
      by_cases q : k' < 8 ∧ j' < 16
      · refine (mCanT_J A q.1 q.2).trans (Eq.trans ?_ (mCanT_J A q.1 q.2).symm)
        rw [mCx_succ hk hj, nb_ne (fun w => z ?_)]
        · simp
        · obtain ⟨e1, e2, e3⟩ := (pl_eq hk hj).mp w
          obtain ⟨g1, g2, g3⟩ := pl_parts (r := r') q.1 q.2
          exact ⟨g1.symm.trans e1, g2.symm.trans e2, g3.symm.trans e3⟩
      · exact (mCanT_J' A q).trans (mCanT_J' A q).symm
  · rw [mUp_f _ h40, mCanT_f A h40 hf, mCanT_f A h40 hf]
theorem mCanT_yes2 {A : MS} {r k j : Nat} (hk : k < 8) (hj : j < 16) (h : mCc A r k j = true) : mQ (mCanT A r (16 * k + j + 1)) = (mQ (mCanT A r (16 * k + j))).filter (fun x => !(Nat.beq x (pl r k j))) := by
  show (mQ A).filter (fun p => !(mCx A r (16 * k + j + 1) p)) = ((mQ A).filter (fun p => !(mCx A r (16 * k + j) p))).filter (fun x => !(Nat.beq x (pl r k j)))
  rw [List.filter_filter]
  refine List.filter_congr fun p _ => ?_
  rw [mCx_succ hk hj, h]
  cases mCx A r (16 * k + j) p <;> cases Nat.beq p (pl r k j) <;> rfl
theorem mCanT_yes3 {A : MS} {r k j : Nat} (hk : k < 8) (hj : j < 16) (h : mCc A r k j = true) (w : Nat) : mW (mCanT A r (16 * k + j + 1)) w = if mW (mCanT A r (16 * k + j)) w = pl r k j + 1 then 0 else mW (mCanT A r (16 * k + j)) w := by
  rw [mCanT_W, mCanT_W, mCx_succ hk hj, h, Bool.and_true]
  by_cases z : mW A w = 0
  · simp [z]
  · cases q : mCx A r (16 * k + j) (mW A w - 1) with
    | true => simp [z]
    | false =>
      by_cases y : mW A w = pl r k j + 1
      · have e : Nat.beq (mW A w - 1) (pl r k j) = true := by rw [y]; exact Nat.beq_refl _
        simp [z, e, y]
      · have e : Nat.beq (mW A w - 1) (pl r k j) = false := nb_ne (by omega)
        simp [z, e, y]
theorem nI_p1eq {n p : Nat} (hn : n < 2 ^ 31) (hp : p + 1 < 2 ^ 31) : nI n - 1 = nI p ↔ n = p + 1 := by
  rcases Nat.eq_zero_or_pos n with q | q
  · subst q
    refine ⟨fun h => ?_, fun h => by omega⟩
    exact absurd (show nI p < 0 by rw [← h]; decide) (nI_pos (by omega))
  · rw [nI_p1 (by omega), nI_eq (by omega) (by omega)]
    omega
section
variable {A : MS} {r k : Nat}
theorem mB_canT (h : mB A) {x : Nat} : mB (mCanT A r x) := by
  refine mB_cong (fun f r' k' j' a b => mCanT_f A (by omega) (by omega) r' k' j') (fun r' hr' => ?_) (fun r' k' j' hr' => ?_) h
  · rw [show mU (mCanT A r x) 11 r' = mU A 11 r' from mCanT_f A (by decide) (by decide) r' 0 0]
    exact (h.2.2.2.2.1 r' hr').1
  · obtain ⟨h1, h2, h3⟩ := h.2.2.2.2.2 r' k' j' hr'
    refine ⟨?_, ?_, ?_⟩
    · by_cases q : k' < 8 ∧ j' < 16
      · rw [mCanT_J A q.1 q.2]
        split
        · decide
        · exact h1
      · rw [mCanT_J' A q]; exact h1
    · rw [show mJ (mCanT A r x) 2 r' k' j' = mJ A 2 r' k' j' from mCanT_f A (by decide) (by decide) r' k' j']; exact h2
    · rw [show mJ (mCanT A r x) 3 r' k' j' = mJ A 3 r' k' j' from mCanT_f A (by decide) (by decide) r' k' j']; exact h3
theorem mT_canT (h : mT A) {x : Nat} : mT (mCanT A r x) := fun r' k' j' => by
  rw [show mJ (mCanT A r x) 1 r' k' j' = mJ A 1 r' k' j' from mCanT_f A (by decide) (by decide) r' k' j']
  exact h r' k' j'
theorem mCx_other {x p : Nat} (h : pR p ≠ r) : mCx A r x p = false := by
  unfold mCx
  rw [nb_ne h, Bool.false_and, Bool.false_and]
/-- in a run of n stages -/
theorem mCx_all {p : Nat} (h : pR p = r) (hk : pK p < mU A 16 r) : mCx A r (16 * mU A 16 r) p = mCc A r (pK p) (pJ p) := by
  unfold mCx
  have hk : p % 128 / 16 < mU A 16 r := hk
  rw [h, Nat.beq_refl, Nat.blt_eq.mpr (by omega)]
  rfl
theorem mJJ_can (h : mJJ A) (hr : r < mR A) (h7 : mU A 11 r = 7) : mJJ (mCan A r) := by
  obtain ⟨⟨hB, hP, hN⟩, hGo, hQ, hW, hJ, hE, h60⟩ := h
  have hG : mG A r := Or.inl h7
  have lo : ∀ f r' k' j', f < 40 → f ≠ 11 → (mCan A r).1 f r' k' j' = A.1 f r' k' j' := fun f r' k' j' a b => (mUp_f _ b r' k' j').trans (mCanT_f A (by omega) (by omega) r' k' j')
  have e11 : mU (mCan A r) 11 r = 8 := mUp_at _ 11 r 0 0 8
  have e11' : ∀ r', r' ≠ r → mU (mCan A r) 11 r' = mU A 11 r' := fun r' q => (mUp_ne _ (fun z => q z.1)).trans (mCanT_f A (by decide) (by decide) r' 0 0)
  have eG : ∀ r', mG (mCan A r) r' ↔ mG A r' := fun r' => by
    by_cases q : r' = r
    · rw [q]; exact ⟨fun _ => hG, fun _ => Or.inr e11⟩
    · unfold mG; rw [e11' r' q]
  have eJ : ∀ r' k' j', mJ (mCan A r) 0 r' k' j' = mJ (mCanT A r (16 * mU A 16 r)) 0 r' k' j' := fun r' k' j' => mUp_f _ (by decide) r' k' j'
  have oth : ∀ r' k' j', r' ≠ r → mJ (mCan A r) 0 r' k' j' = mJ A 0 r' k' j' := fun r' k' j' q => by
    rw [eJ]
    by_cases z : k' < 8 ∧ j' < 16
    · rw [mCanT_J A z.1 z.2, mCx_other (by rw [show pR (pl r' k' j') = r' from (pl_parts z.1 z.2).1]; exact q)]
      rfl
    · exact mCanT_J' A z
  have same : ∀ k' j', k' < mU A 16 r → k' < 8 → j' < 16 → mJ (mCan A r) 0 r k' j' = if mCc A r k' j' = true then 5 else mJ A 0 r k' j' := fun k' j' a b c => by
    obtain ⟨p1, p2, p3⟩ := pl_parts (r := r) b c
    rw [eJ, mCanT_J A b c, mCx_all p1 (by rw [show pK (pl r k' j') = k' from p2]; exact a), show pK (pl r k' j') = k' from p2, show pJ (pl r k' j') = j' from p3]
  have hi : ∀ k' j', mU A 16 r ≤ k' → mJ (mCan A r) 0 r k' j' = 8 := fun k' j' a => by
    have h8 := hJ.1 r k' j' hr a
    rw [eJ]
    by_cases z : k' < 8 ∧ j' < 16
    · rw [mCanT_J A z.1 z.2, mCx_pl z.1 z.2]
      unfold mCc
      rw [h8]
      simp [Nat.beq]
    · rw [mCanT_J' A z]; exact h8
  have h16 : mU A 16 r ≤ 8 := by
    have h1 := (hB.2.2.2.2.1 r hr).2.2.2.2.2.2
    have h2 := hB.1.1
    omega
  have nz : ∀ k' j', j' < 16 → mJ (mCan A r) 0 r k' j' ≠ 0 ∧ mJ (mCan A r) 0 r k' j' ≠ 1 := fun k' j' hj => by
    by_cases a : k' < mU A 16 r
    · rw [same k' j' a (by omega) hj]
      split
      · decide
      · rename_i q
        refine ⟨fun z => q ?_, fun z => q ?_⟩
        · unfold mCc; rw [z]; rfl
        · unfold mCc; rw [z]; rfl
    · rw [hi k' j' (by omega)]; decide
  have kw : ∀ w p, mW (mCan A r) w = p + 1 → mW A w = p + 1 ∧ mCx A r (16 * mU A 16 r) p = false := fun w p z => by
    have e : mW (mCan A r) w = mW (mCanT A r (16 * mU A 16 r)) w := mUp_f _ (by decide) w 0 0
    rw [e, mCanT_W] at z
    split at z
    · cases z
    · rename_i q
      refine ⟨z, not_true_b fun v => q ⟨by omega, ?_⟩⟩
      rw [z]; exact v
  refine ⟨⟨?_, mPB_cong lo hP, mNow_cong lo (fun r' _ z => (eG r').mp z) hN⟩, ?_, ⟨List.Nodup.sublist List.filter_sublist hQ.1, fun p hp => ?_⟩, ⟨fun w hw => ?_, fun w v h1 h2 => ?_, fun w p h1 => ?_⟩, ⟨fun r' k' j' hr' hk' => ?_, fun r' k' j' hr' h8 hj' => ?_, fun r' k' j1 j2 hr' h1 h2 h3 => ?_⟩, mEB_cong lo rfl hE, ?_⟩
  · refine mB_cong (A := mCanT A r (16 * mU A 16 r)) (fun f r' k' j' a b => mUp_f _ b r' k' j') (fun r' hr' => ?_) (fun r' k' j' hr' => (mB_canT hB).2.2.2.2.2 r' k' j' hr') (mB_canT hB)
    by_cases q : r' = r
    · rw [q, e11]; decide
    · rw [e11' r' q]
      exact (hB.2.2.2.2.1 r' hr').1
  · rw [mGo_cong (A := A) (lo 10 0 0 0 (by decide) (by decide)) (fun r' _ => by rw [Bool.eq_iff_iff, mGb_iff, mGb_iff]; exact eG r')]
    exact hGo
  · have hp : p ∈ (mQ A).filter (fun p => !(mCx A r (16 * mU A 16 r) p)) := hp
    rw [List.mem_filter] at hp
    obtain ⟨h1, h2, h3⟩ := hQ.2 p hp.1
    have hne : pR p ≠ r := fun z => by
      have hk : pK p < mU A 16 r := by
        rcases Nat.lt_or_ge (pK p) (mU A 16 r) with q | q
        · exact q
        · have := hJ.1 r (pK p) (pJ p) hr q
          rw [z, this] at h3
          cases h3
      have e := mCx_all z hk
      have e2 : mCc A r (pK p) (pJ p) = true := by
        rw [z] at h3
        unfold mCc
        rw [h3]; rfl
      rw [e, e2] at hp
      exact absurd hp.2 (by decide)
    exact ⟨h1, (eG _).mpr h2, by rw [oth _ _ _ hne]; exact h3⟩
  · have e : mW (mCan A r) w = mW (mCanT A r (16 * mU A 16 r)) w := mUp_f _ (by decide) w 0 0
    rw [e, mCanT_W, hW.1 w hw]
    split <;> rfl
  · obtain ⟨p, hp⟩ : ∃ p, mW (mCan A r) w = p + 1 := ⟨mW (mCan A r) w - 1, by omega⟩
    rw [hp] at h2
    have k1 := (kw w p hp).1
    have k2 := (kw v p h2.symm).1
    exact hW.2.1 w v (by omega) (k1.trans k2.symm)
  · obtain ⟨k1, k2⟩ := kw w p h1
    obtain ⟨g1, g2, g3⟩ := hW.2.2 w p k1
    refine ⟨g1, (eG _).mpr g2, ?_⟩
    obtain ⟨p1, p2, p3⟩ := pl_of p
    rw [eJ, mCanT_J A p2 p3, p1, k2]
    exact g3
  · rw [show mU (mCan A r) 16 r' = mU A 16 r' from lo 16 r' 0 0 (by decide) (by decide)] at hk'
    by_cases q : r' = r
    · rw [q] at hk' ⊢; exact hi k' j' hk'
    · rw [oth r' k' j' q]; exact hJ.1 r' k' j' hr' hk'
  · by_cases q : r' = r
    · rw [q]; exact nz k' j' hj'
    · rw [e11' r' q] at h8
      rw [oth r' k' j' q]; exact hJ.2.1 r' k' j' hr' h8 hj'
  · by_cases q : r' = r
    · rw [q] at h3; exact absurd h3 (nz k' j1 h1).1
    · rw [oth r' k' j1 q] at h3
      rw [oth r' k' j2 q]
      exact hJ.2.2 r' k' j1 j2 hr' h1 h2 h3
  · exact ((mUp_f _ (by decide) 0 0 0).trans (mCanT_f A (by decide) (by decide) 0 0 0)).trans h60
theorem mT_can (h : mT A) : mT (mCan A r) := mT_canT (r := r) (x := 16 * mU A 16 r) h
end
section
variable {e0 mo : Nat} {σ : SG} {m : Nat} {M : Nat → Nat} {A : MS} {r k j : Nat}
theorem mCn_le (A : MS) (r x : Nat) : mCn A r x ≤ x := ax_n_le _ x
theorem mW_small (hW : mWI A) (hI : mB A) (w : Nat) : mW A w ≤ 10240 := by
  rcases Nat.eq_zero_or_pos (mW A w) with q | q
  · omega
  · have h1 := (hW.2.2 w (mW A w - 1) (by omega)).1
    have h1 : (mW A w - 1) / 128 < mR A := h1
    have h2 := hI.1.2
    omega
theorem mQ_small (hQ : mQI A) (hI : mB A) {p : Nat} (hp : p ∈ mQ A) : p < 10240 := by
  have h1 : p / 128 < mR A := (hQ.2 p hp).1
  have h2 := hI.1.2
  omega
def oCancel (A : MS) (x : Int32) : OC := bif inB x (mR A) then (bif Nat.beq (mU A 11 x.toNatClampNeg) 7 then ((0, nI (mCn A x.toNatClampNeg (16 * mU A 16 x.toNatClampNeg))), mFol (mCan A x.toNatClampNeg) x.toNatClampNeg) else ((2, 0), A)) else ((1, 0), A)
end
end AXMR
