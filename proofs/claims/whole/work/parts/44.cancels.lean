/-! A run is cancelled. -/
section AXMR
/-- a job that is cancelled with its run -/
def mCc (A : MS) (r k j : Nat) : Bool := Nat.beq (mJ A 0 r k j) 0 || Nat.beq (mJ A 0 r k j) 1 || (Nat.beq (mJ A 0 r k j) 2 && Nat.beq (mP A 9 r k) 1)
/-- of the run r's first x jobs the place p is one that is cancelled -/
def mCx (A : MS) (r x p : Nat) : Bool := Nat.beq (pR p) r && Nat.blt (p % 128) x && mCc A r (pK p) (pJ p)
/-- the run r's first x jobs are cancelled -/
def mCanT (A : MS) (r x : Nat) : MS :=
  (fun f r' k' j' => if f = 40 ∧ k' < 8 ∧ j' < 16 ∧ mCx A r x (pl r' k' j') = true then 5 else if f = 50 ∧ mW A r' ≠ 0 ∧ mCx A r x (mW A r' - 1) = true then 0 else A.1 f r' k' j', (mQ A).filter (fun p => !(mCx A r x p)), mE A)
/-- how many jobs that are -/
def mCn (A : MS) (r x : Nat) : Nat := ax_n (fun y => mCc A r (y / 16) (y % 16)) x
def mCan (A : MS) (r : Nat) : MS := mUp (mCanT A r (16 * mU A 16 r)) 11 r 0 0 8
theorem mCanT_f (A : MS) {r x f : Nat} (h1 : f ≠ 40) (h2 : f ≠ 50) (r' k' j' : Nat) : (mCanT A r x).1 f r' k' j' = A.1 f r' k' j' := by
  show (if f = 40 ∧ k' < 8 ∧ j' < 16 ∧ mCx A r x (pl r' k' j') = true then 5 else if f = 50 ∧ mW A r' ≠ 0 ∧ mCx A r x (mW A r' - 1) = true then 0 else A.1 f r' k' j') = _
  rw [if_neg (fun z => h1 z.1), if_neg (fun z => h2 z.1)]
theorem mCanT_J (A : MS) {r x r' k' j' : Nat} (hk : k' < 8) (hj : j' < 16) : mJ (mCanT A r x) 0 r' k' j' = if mCx A r x (pl r' k' j') = true then 5 else mJ A 0 r' k' j' := by
  show (if (40 : Nat) = 40 ∧ k' < 8 ∧ j' < 16 ∧ mCx A r x (pl r' k' j') = true then 5 else if (40 : Nat) = 50 ∧ mW A r' ≠ 0 ∧ mCx A r x (mW A r' - 1) = true then 0 else A.1 40 r' k' j') = _
  by_cases z : mCx A r x (pl r' k' j') = true
  · rw [if_pos ⟨rfl, hk, hj, z⟩, if_pos z]
  · rw [if_neg (fun w => z w.2.2.2), if_neg (fun w => absurd w.1 (by decide)), if_neg z]
theorem mCanT_J' (A : MS) {r x r' k' j' : Nat} (h : ¬ (k' < 8 ∧ j' < 16)) : mJ (mCanT A r x) 0 r' k' j' = mJ A 0 r' k' j' := by
  show (if (40 : Nat) = 40 ∧ k' < 8 ∧ j' < 16 ∧ mCx A r x (pl r' k' j') = true then 5 else if (40 : Nat) = 50 ∧ mW A r' ≠ 0 ∧ mCx A r x (mW A r' - 1) = true then 0 else A.1 40 r' k' j') = _
  rw [if_neg (fun w => h ⟨w.2.1, w.2.2.1⟩), if_neg (fun w => absurd w.1 (by decide))]
theorem mCanT_W (A : MS) (r x w : Nat) : mW (mCanT A r x) w = if mW A w ≠ 0 ∧ mCx A r x (mW A w - 1) = true then 0 else mW A w := by
  show (if (50 : Nat) = 40 ∧ 0 < 8 ∧ 0 < 16 ∧ mCx A r x (pl w 0 0) = true then 5 else if (50 : Nat) = 50 ∧ mW A w ≠ 0 ∧ mCx A r x (mW A w - 1) = true then 0 else A.1 50 w 0 0) = _
  rw [if_neg (fun z => absurd z.1 (by decide))]
  by_cases z : mW A w ≠ 0 ∧ mCx A r x (mW A w - 1) = true
  · rw [if_pos ⟨rfl, z⟩, if_pos z]
  · rw [if_neg (fun q => z q.2), if_neg z]
theorem mCx_pl {A : MS} {r x r' k j : Nat} (hk : k < 8) (hj : j < 16) : mCx A r x (pl r' k j) = (Nat.beq r' r && Nat.blt (16 * k + j) x && mCc A r k j) := by
  obtain ⟨e1, e2, e3⟩ := pl_parts (r := r') hk hj
  have e4 : pl r' k j % 128 = 16 * k + j := by
    show (128 * r' + 16 * k + j) % 128 = _
    omega
  unfold mCx
  rw [show pR (pl r' k j) = r' from e1, show pK (pl r' k j) = k from e2, show pJ (pl r' k j) = j from e3, e4]
theorem mCx_0 (A : MS) (r p : Nat) : mCx A r 0 p = false := by
  unfold mCx
  rw [show Nat.blt (p % 128) 0 = false from rfl, Bool.and_false, Bool.false_and]
theorem mCanT_0 (A : MS) (r : Nat) : mCanT A r 0 = A := by
  refine Prod.ext ?_ (Prod.ext ?_ rfl)
  · funext f r' k' j'
    show (if f = 40 ∧ k' < 8 ∧ j' < 16 ∧ mCx A r 0 (pl r' k' j') = true then 5 else if f = 50 ∧ mW A r' ≠ 0 ∧ mCx A r 0 (mW A r' - 1) = true then 0 else A.1 f r' k' j') = _
    rw [if_neg (fun z => by rw [mCx_0] at z; exact absurd z.2.2.2 (by decide)), if_neg (fun z => by rw [mCx_0] at z; exact absurd z.2.2 (by decide))]
  · show (mQ A).filter (fun p => !(mCx A r 0 p)) = mQ A
    refine List.filter_eq_self.mpr fun p _ => ?_
    rw [mCx_0]; rfl
theorem mCx_succ {A : MS} {r k j p : Nat} (hk : k < 8) (hj : j < 16) : mCx A r (16 * k + j + 1) p = (mCx A r (16 * k + j) p || (Nat.beq p (pl r k j) && mCc A r k j)) := by
  by_cases z : p = pl r k j
  · rw [z, mCx_pl hk hj, mCx_pl hk hj, Nat.beq_refl, Nat.beq_refl, Nat.blt_eq.mpr (Nat.lt_succ_self _), not_true_b (fun w => Nat.lt_irrefl _ (Nat.blt_eq.mp w))]
    cases mCc A r k j <;> rfl
  · rw [nb_ne z]
    have hz := mt (pl_eq (p := p) (r := r) hk hj).mpr z
    unfold mCx
    cases e1 : Nat.beq (pR p) r with
    | false => rfl
    | true =>
      have e1 := ax_beq e1
      have e2 : Nat.blt (p % 128) (16 * k + j + 1) = Nat.blt (p % 128) (16 * k + j) := by
        rw [Bool.eq_iff_iff, Nat.blt_eq, Nat.blt_eq]
        have h1 : p % 128 ≠ 16 * k + j := fun w => hz ⟨e1, by show p % 128 / 16 = k; omega, by show p % 16 = j; omega⟩
        omega
      rw [e2]
      simp
theorem mCanT_no {A : MS} {r k j : Nat} (hk : k < 8) (hj : j < 16) (h : mCc A r k j = false) : mCanT A r (16 * k + j + 1) = mCanT A r (16 * k + j) := by
  have e : ∀ p, mCx A r (16 * k + j + 1) p = mCx A r (16 * k + j) p := fun p => by rw [mCx_succ hk hj, h, Bool.and_false, Bool.or_false]
  unfold mCanT
  simp only [e]
/-- the place p0 is cancelled: its state, the queue, the workers -/
theorem mCanT_yes1 {A : MS} {r k j : Nat} (hk : k < 8) (hj : j < 16) (h : mCc A r k j = true) (f r' k' j' : Nat) (hf : f ≠ 50) : (mCanT A r (16 * k + j + 1)).1 f r' k' j' = (mUp (mCanT A r (16 * k + j)) 40 r k j 5).1 f r' k' j' := by
  by_cases h40 : f = 40
  · subst h40
    by_cases z : r' = r ∧ k' = k ∧ j' = j
    · obtain ⟨rfl, rfl, rfl⟩ := z
      rw [mUp_at]
      refine (mCanT_J A hk hj).trans (if_pos ?_)
      rw [mCx_succ hk hj, Nat.beq_refl, h]
      simp
    · rw [mUp_ne _ z]
      by_cases q : k' < 8 ∧ j' < 16
      · refine (mCanT_J A q.1 q.2).trans (Eq.trans ?_ (mCanT_J A q.1 q.2).symm)
        rw [mCx_succ hk hj, nb_ne (fun w => z ?_)]
        · simp
        · obtain ⟨e1, e2, e3⟩ := (pl_eq hk hj).mp w
          obtain ⟨g1, g2, g3⟩ := pl_parts (r := r') q.1 q.2
          exact ⟨g1.symm.trans e1, g2.symm.trans e2, g3.symm.trans e3⟩
      · exact (mCanT_J' A q).trans (mCanT_J' A q).symm
  · rw [mUp_f _ h40, mCanT_f A h40 hf, mCanT_f A h40 hf]
theorem mCanT_yes2 {A : MS} {r k j : Nat} (hk : k < 8) (hj : j < 16) (h : mCc A r k j = true) : mQ (mCanT A r (16 * k + j + 1)) = (mQ (mCanT A r (16 * k + j))).filter (fun x => !(Nat.beq x (pl r k j))) := by
  show (mQ A).filter (fun p => !(mCx A r (16 * k + j + 1) p)) = ((mQ A).filter (fun p => !(mCx A r (16 * k + j) p))).filter (fun x => !(Nat.beq x (pl r k j)))
  rw [List.filter_filter]
  refine List.filter_congr fun p _ => ?_
  rw [mCx_succ hk hj, h]
  cases mCx A r (16 * k + j) p <;> cases Nat.beq p (pl r k j) <;> rfl
theorem mCanT_yes3 {A : MS} {r k j : Nat} (hk : k < 8) (hj : j < 16) (h : mCc A r k j = true) (w : Nat) : mW (mCanT A r (16 * k + j + 1)) w = if mW (mCanT A r (16 * k + j)) w = pl r k j + 1 then 0 else mW (mCanT A r (16 * k + j)) w := by
  rw [mCanT_W, mCanT_W, mCx_succ hk hj, h, Bool.and_true]
  by_cases z : mW A w = 0
  · simp [z]
  · cases q : mCx A r (16 * k + j) (mW A w - 1) with
    | true => simp [z]
    | false =>
      by_cases y : mW A w = pl r k j + 1
      · have e : Nat.beq (mW A w - 1) (pl r k j) = true := by rw [y]; exact Nat.beq_refl _
        simp [z, e, y]
      · have e : Nat.beq (mW A w - 1) (pl r k j) = false := nb_ne (by omega)
        simp [z, e, y]
theorem nI_p1eq {n p : Nat} (hn : n < 2 ^ 31) (hp : p + 1 < 2 ^ 31) : nI n - 1 = nI p ↔ n = p + 1 := by
  rcases Nat.eq_zero_or_pos n with q | q
  · subst q
    refine ⟨fun h => ?_, fun h => by omega⟩
    exact absurd (show nI p < 0 by rw [← h]; decide) (nI_pos (by omega))
  · rw [nI_p1 (by omega), nI_eq (by omega) (by omega)]
    omega
section
variable {A : MS} {r k : Nat}
theorem mB_canT (h : mB A) {x : Nat} : mB (mCanT A r x) := by
  refine mB_cong (fun f r' k' j' a b => mCanT_f A (by omega) (by omega) r' k' j') (fun r' hr' => ?_) (fun r' k' j' hr' => ?_) h
  · rw [show mU (mCanT A r x) 11 r' = mU A 11 r' from mCanT_f A (by decide) (by decide) r' 0 0]
    exact (h.2.2.2.2.1 r' hr').1
  · obtain ⟨h1, h2, h3⟩ := h.2.2.2.2.2 r' k' j' hr'
    refine ⟨?_, ?_, ?_⟩
    · by_cases q : k' < 8 ∧ j' < 16
      · rw [mCanT_J A q.1 q.2]
        split
        · decide
        · exact h1
      · rw [mCanT_J' A q]; exact h1
    · rw [show mJ (mCanT A r x) 2 r' k' j' = mJ A 2 r' k' j' from mCanT_f A (by decide) (by decide) r' k' j']; exact h2
    · rw [show mJ (mCanT A r x) 3 r' k' j' = mJ A 3 r' k' j' from mCanT_f A (by decide) (by decide) r' k' j']; exact h3
theorem mT_canT (h : mT A) {x : Nat} : mT (mCanT A r x) := fun r' k' j' => by
  rw [show mJ (mCanT A r x) 1 r' k' j' = mJ A 1 r' k' j' from mCanT_f A (by decide) (by decide) r' k' j']
  exact h r' k' j'
theorem mCx_other {x p : Nat} (h : pR p ≠ r) : mCx A r x p = false := by
  unfold mCx
  rw [nb_ne h, Bool.false_and, Bool.false_and]
/-- in a run of n stages -/
theorem mCx_all {p : Nat} (h : pR p = r) (hk : pK p < mU A 16 r) : mCx A r (16 * mU A 16 r) p = mCc A r (pK p) (pJ p) := by
  unfold mCx
  have hk : p % 128 / 16 < mU A 16 r := hk
  rw [h, Nat.beq_refl, Nat.blt_eq.mpr (by omega)]
  rfl
theorem mJJ_can (h : mJJ A) (hr : r < mR A) (h7 : mU A 11 r = 7) : mJJ (mCan A r) := by
  obtain ⟨⟨hB, hP, hN⟩, hGo, hQ, hW, hJ, hE, h60⟩ := h
  have hG : mG A r := Or.inl h7
  have lo : ∀ f r' k' j', f < 40 → f ≠ 11 → (mCan A r).1 f r' k' j' = A.1 f r' k' j' := fun f r' k' j' a b => (mUp_f _ b r' k' j').trans (mCanT_f A (by omega) (by omega) r' k' j')
  have e11 : mU (mCan A r) 11 r = 8 := mUp_at _ 11 r 0 0 8
  have e11' : ∀ r', r' ≠ r → mU (mCan A r) 11 r' = mU A 11 r' := fun r' q => (mUp_ne _ (fun z => q z.1)).trans (mCanT_f A (by decide) (by decide) r' 0 0)
  have eG : ∀ r', mG (mCan A r) r' ↔ mG A r' := fun r' => by
    by_cases q : r' = r
    · rw [q]; exact ⟨fun _ => hG, fun _ => Or.inr e11⟩
    · unfold mG; rw [e11' r' q]
  have eJ : ∀ r' k' j', mJ (mCan A r) 0 r' k' j' = mJ (mCanT A r (16 * mU A 16 r)) 0 r' k' j' := fun r' k' j' => mUp_f _ (by decide) r' k' j'
  have oth : ∀ r' k' j', r' ≠ r → mJ (mCan A r) 0 r' k' j' = mJ A 0 r' k' j' := fun r' k' j' q => by
    rw [eJ]
    by_cases z : k' < 8 ∧ j' < 16
    · rw [mCanT_J A z.1 z.2, mCx_other (by rw [show pR (pl r' k' j') = r' from (pl_parts z.1 z.2).1]; exact q)]
      rfl
    · exact mCanT_J' A z
  have same : ∀ k' j', k' < mU A 16 r → k' < 8 → j' < 16 → mJ (mCan A r) 0 r k' j' = if mCc A r k' j' = true then 5 else mJ A 0 r k' j' := fun k' j' a b c => by
    obtain ⟨p1, p2, p3⟩ := pl_parts (r := r) b c
    rw [eJ, mCanT_J A b c, mCx_all p1 (by rw [show pK (pl r k' j') = k' from p2]; exact a), show pK (pl r k' j') = k' from p2, show pJ (pl r k' j') = j' from p3]
  have hi : ∀ k' j', mU A 16 r ≤ k' → mJ (mCan A r) 0 r k' j' = 8 := fun k' j' a => by
    have h8 := hJ.1 r k' j' hr a
    rw [eJ]
    by_cases z : k' < 8 ∧ j' < 16
    · rw [mCanT_J A z.1 z.2, mCx_pl z.1 z.2]
      unfold mCc
      rw [h8]
      simp [Nat.beq]
    · rw [mCanT_J' A z]; exact h8
  have h16 : mU A 16 r ≤ 8 := by
    have h1 := (hB.2.2.2.2.1 r hr).2.2.2.2.2.2
    have h2 := hB.1.1
    omega
  have nz : ∀ k' j', j' < 16 → mJ (mCan A r) 0 r k' j' ≠ 0 ∧ mJ (mCan A r) 0 r k' j' ≠ 1 := fun k' j' hj => by
    by_cases a : k' < mU A 16 r
    · rw [same k' j' a (by omega) hj]
      split
      · decide
      · rename_i q
        refine ⟨fun z => q ?_, fun z => q ?_⟩
        · unfold mCc; rw [z]; rfl
        · unfold mCc; rw [z]; rfl
    · rw [hi k' j' (by omega)]; decide
  have kw : ∀ w p, mW (mCan A r) w = p + 1 → mW A w = p + 1 ∧ mCx A r (16 * mU A 16 r) p = false := fun w p z => by
    have e : mW (mCan A r) w = mW (mCanT A r (16 * mU A 16 r)) w := mUp_f _ (by decide) w 0 0
    rw [e, mCanT_W] at z
    split at z
    · cases z
    · rename_i q
      refine ⟨z, not_true_b fun v => q ⟨by omega, ?_⟩⟩
      rw [z]; exact v
  refine ⟨⟨?_, mPB_cong lo hP, mNow_cong lo (fun r' _ z => (eG r').mp z) hN⟩, ?_, ⟨List.Nodup.sublist List.filter_sublist hQ.1, fun p hp => ?_⟩, ⟨fun w hw => ?_, fun w v h1 h2 => ?_, fun w p h1 => ?_⟩, ⟨fun r' k' j' hr' hk' => ?_, fun r' k' j' hr' h8 hj' => ?_, fun r' k' j1 j2 hr' h1 h2 h3 => ?_⟩, mEB_cong lo rfl hE, ?_⟩
  · refine mB_cong (A := mCanT A r (16 * mU A 16 r)) (fun f r' k' j' a b => mUp_f _ b r' k' j') (fun r' hr' => ?_) (fun r' k' j' hr' => (mB_canT hB).2.2.2.2.2 r' k' j' hr') (mB_canT hB)
    by_cases q : r' = r
    · rw [q, e11]; decide
    · rw [e11' r' q]
      exact (hB.2.2.2.2.1 r' hr').1
  · rw [mGo_cong (A := A) (lo 10 0 0 0 (by decide) (by decide)) (fun r' _ => by rw [Bool.eq_iff_iff, mGb_iff, mGb_iff]; exact eG r')]
    exact hGo
  · have hp : p ∈ (mQ A).filter (fun p => !(mCx A r (16 * mU A 16 r) p)) := hp
    rw [List.mem_filter] at hp
    obtain ⟨h1, h2, h3⟩ := hQ.2 p hp.1
    have hne : pR p ≠ r := fun z => by
      have hk : pK p < mU A 16 r := by
        rcases Nat.lt_or_ge (pK p) (mU A 16 r) with q | q
        · exact q
        · have := hJ.1 r (pK p) (pJ p) hr q
          rw [z, this] at h3
          cases h3
      have e := mCx_all z hk
      have e2 : mCc A r (pK p) (pJ p) = true := by
        rw [z] at h3
        unfold mCc
        rw [h3]; rfl
      rw [e, e2] at hp
      exact absurd hp.2 (by decide)
    exact ⟨h1, (eG _).mpr h2, by rw [oth _ _ _ hne]; exact h3⟩
  · have e : mW (mCan A r) w = mW (mCanT A r (16 * mU A 16 r)) w := mUp_f _ (by decide) w 0 0
    rw [e, mCanT_W, hW.1 w hw]
    split <;> rfl
  · obtain ⟨p, hp⟩ : ∃ p, mW (mCan A r) w = p + 1 := ⟨mW (mCan A r) w - 1, by omega⟩
    rw [hp] at h2
    have k1 := (kw w p hp).1
    have k2 := (kw v p h2.symm).1
    exact hW.2.1 w v (by omega) (k1.trans k2.symm)
  · obtain ⟨k1, k2⟩ := kw w p h1
    obtain ⟨g1, g2, g3⟩ := hW.2.2 w p k1
    refine ⟨g1, (eG _).mpr g2, ?_⟩
    obtain ⟨p1, p2, p3⟩ := pl_of p
    rw [eJ, mCanT_J A p2 p3, p1, k2]
    exact g3
  · rw [show mU (mCan A r) 16 r' = mU A 16 r' from lo 16 r' 0 0 (by decide) (by decide)] at hk'
    by_cases q : r' = r
    · rw [q] at hk' ⊢; exact hi k' j' hk'
    · rw [oth r' k' j' q]; exact hJ.1 r' k' j' hr' hk'
  · by_cases q : r' = r
    · rw [q]; exact nz k' j' hj'
    · rw [e11' r' q] at h8
      rw [oth r' k' j' q]; exact hJ.2.1 r' k' j' hr' h8 hj'
  · by_cases q : r' = r
    · rw [q] at h3; exact absurd h3 (nz k' j1 h1).1
    · rw [oth r' k' j1 q] at h3
      rw [oth r' k' j2 q]
      exact hJ.2.2 r' k' j1 j2 hr' h1 h2 h3
  · exact ((mUp_f _ (by decide) 0 0 0).trans (mCanT_f A (by decide) (by decide) 0 0 0)).trans h60
theorem mT_can (h : mT A) : mT (mCan A r) := mT_canT (r := r) (x := 16 * mU A 16 r) h
end
section
variable {e0 mo : Nat} {σ : SG} {m : Nat} {M : Nat → Nat} {A : MS} {r k j : Nat}
theorem mCn_le (A : MS) (r x : Nat) : mCn A r x ≤ x := ax_n_le _ x
theorem mW_small (hW : mWI A) (hI : mB A) (w : Nat) : mW A w ≤ 10240 := by
  rcases Nat.eq_zero_or_pos (mW A w) with q | q
  · omega
  · have h1 := (hW.2.2 w (mW A w - 1) (by omega)).1
    have h1 : (mW A w - 1) / 128 < mR A := h1
    have h2 := hI.1.2
    omega
theorem mQ_small (hQ : mQI A) (hI : mB A) {p : Nat} (hp : p ∈ mQ A) : p < 10240 := by
  have h1 : p / 128 < mR A := (hQ.2 p hp).1
  have h2 := hI.1.2
  omega
theorem ct_118 (h : ax_rm σ m M A) (hJJ : mJJ A) (hT : mT A) (hr : r < mR A) (h7 : mU A 11 r = 7) : ax_ok e0 mo 6 118 [aR m, aI (nI r)] σ (fun w σ2 => w = aI (nI (mCn A r (16 * mU A 16 r))) ∧ ax_rm σ2 m M (mFol (mCan A r) r) ∧ ax_mf m M σ σ2) := by
  obtain ⟨⟨hI, hP, hN⟩, hGo, hQ, hW, hJ, hE, h60⟩ := id hJJ
  have hG : mG A r := Or.inl h7
  have hR := hI.1.2
  have h16 := (hI.2.2.2.2.1 r hr).2.2.2.2.2.2
  have hNN := hI.1.1
  have a11 : ax_mr 11 := mr_of (by decide) (by decide) (by decide) (by decide)
  have a20 : ax_mr 20 := mr_of (by decide) (by decide) (by decide) (by decide)
  have hql := mQ_len hGo hQ
  have bT : ∀ x, mB (mCanT A r x) := fun x => mB_canT hI
  have tT : ∀ x, mT (mCanT A r x) := fun x => mT_canT hT
  have gT : ∀ x, mG (mCanT A r x) r := fun x => by
    unfold mG
    rw [show mU (mCanT A r x) 11 r = mU A 11 r from mCanT_f A (by decide) (by decide) r 0 0]
    exact hG
  have u16 : ∀ x, mU (mCanT A r x) 16 r = mU A 16 r := fun x => mCanT_f A (by decide) (by decide) r 0 0
  refine sg_118_0 (d := 5) ?_
  refine ax_down (N := mU A 16 r) (fun s => ∀ (σ1 : SG) (v4 v5 v6 v7 : AV), ax_rm σ1 m M (mCanT A r (16 * s)) → ax_mf m M σ σ1 → ax_wp e0 mo 6 118 (4, [aR m, aI (nI r), aI (nI (mCn A r (16 * s))), aI (nI s), v4, v5, v6, v7], []) σ1 _) ?_ (fun s hs ih => ?_) 0 (Nat.zero_le _) σ aU aU aU aU (by rw [mCanT_0]; exact h) (ax_mf.refl _ _ _)
  · intro σ1 v4 v5 v6 v7 h1 f1
    obtain ⟨q1, q2, q3⟩ := rm_run h1 (bT _) (f := 14) (by decide) (show r < 80 by omega)
    obtain ⟨u1, u2, u3⟩ := rm_run h1 (bT _) (f := 11) (by decide) (show r < 80 by omega)
    have ev := (h1.2.2.2.1 r hr).2.2.2
    rw [u16] at ev
    refine sg_118_4 (d := 5) ⟨ax_kd h1.1.1, ?_⟩
    rw [q1, q3, ev, u1]
    refine ⟨q2, fun z => absurd z (nI_nlt (Nat.le_refl _) (by omega)), fun _ => ⟨ax_kd h1.1.1, u2, ax_kd h1.1.1, ?_⟩⟩
    have a16 : ax_mr 16 := mr_of (by decide) (by decide) (by decide) (by decide)
    have n11 : M 16 ≠ M 11 := rm_apart h.1 a16 a11 (by decide)
    have h2 : ax_rm (putI σ1 20 r (M 11) 8) m M (mCan A r) := by
      refine rm_11 (r := r) h1 (fun f r' k' j' a b => mUp_f _ a r' k' j') (fun r' q => mUp_ne _ (fun z => q z.1)) rfl rfl rfl rfl (fun k i q n1 n2 => by rw [gI_putI, if_neg n1]) ?_ (fun r' hr' hg hx => ?_)
      · rw [gI_putI, if_pos ⟨rfl, rfl, rfl⟩, show mU (mCan A r) 11 r = 8 from mUp_at _ 11 r 0 0 8]
        rfl
      · rw [gI_putI, if_neg (fun z => n11 z.2.2)]
        refine h1.2.2.2.2.2.1 r' hr' (fun z => hg ?_) ?_
        · by_cases q : r' = r
          · rw [q]; exact Or.inr (mUp_at _ 11 r 0 0 8)
          · unfold mG at z ⊢
            rw [show mU (mCan A r) 11 r' = mU (mCanT A r (16 * mU A 16 r)) 11 r' from mUp_ne _ (fun z => q z.1)]
            exact z
        · rw [show (mCan A r).1 60 0 0 0 = (mCanT A r (16 * mU A 16 r)).1 60 0 0 0 from mUp_f _ (by decide) 0 0 0] at hx
          exact hx
    refine ax_use (ct_117 h2 (mJJ_can hJJ hr h7) (mT_can hT) hr (Or.inr (mUp_at _ 11 r 0 0 8))) rfl fun w σ3 hw3 => ?_
    obtain ⟨rfl, h3, f3⟩ := hw3
    exact sg_118_153 (d := 5) ⟨rfl, h3, (f1.row a11 _ (Or.inl rfl)).trans f3⟩
  · intro σ1 v4 v5 v6 v7 h1 f1
    have hs8 : s < 8 := by omega
    obtain ⟨q1, q2, q3⟩ := rm_run h1 (bT _) (f := 14) (by decide) (show r < 80 by omega)
    have ev := (h1.2.2.2.1 r hr).2.2.2
    rw [u16] at ev
    refine sg_118_4 (d := 5) ⟨ax_kd h1.1.1, ?_⟩
    rw [q1, q3, ev]
    refine ⟨q2, fun _ => ?_, fun z => absurd (nI_lt hs (by omega)) z⟩
    refine ax_down (N := 16) (fun j => ∀ (σ1 : SG) (v5 v6 v7 : AV), ax_rm σ1 m M (mCanT A r (16 * s + j)) → ax_mf m M σ σ1 → ax_wp e0 mo 6 118 (17, [aR m, aI (nI r), aI (nI (mCn A r (16 * s + j))), aI (nI s), aI (nI j), v5, v6, v7], []) σ1 _) ?_ (fun j hj ih2 => ?_) 0 (Nat.zero_le _) σ1 v5 v6 v7 h1 f1
    · intro σ2 v5 v6 v7 h2 f2
      refine sg_118_17 (d := 5) ⟨fun q => absurd q (by decide), fun _ => ?_⟩
      rw [nI_1]
      exact ih σ2 _ _ _ _ h2 f2
    · intro σ2 v5 v6 v7 h2 f2
      obtain ⟨pp1, pp2, pp3⟩ := pl_parts (r := r) hs8 hj
      have hpl : pl r s j < 2 ^ 30 := by
        show 128 * r + 16 * s + j < _
        omega
      have es : mJ (mCanT A r (16 * s + j)) 0 r s j = mJ A 0 r s j := by
        rw [mCanT_J A hs8 hj, mCx_pl hs8 hj, not_true_b (fun w => Nat.lt_irrefl _ (Nat.blt_eq.mp w))]
        simp
      have hst : mJ A 0 r s j ≤ 8 := (hI.2.2.2.2.2 r s j hr).1
      have ec : (16 * s + j) / 16 = s ∧ (16 * s + j) % 16 = j := by omega
      refine sg_118_17 (d := 5) ⟨fun _ => ?_, fun z => absurd (nI_lt (b := 16) hj (by decide)) z⟩
      refine ax_use0 ct_103 rfl ?_
      refine sg_118_31 (d := 5) ⟨ax_kd h2.1.1, ?_⟩
      refine ax_use0 (ct_104 h2 (bT _) (tT _) hr hs8 hj) rfl ?_
      rw [es]
      have skip : mCc A r s j = false → ∀ a b c : AV, ax_wp e0 mo 6 118 (17, [aR m, aI (nI r), aI (nI (mCn A r (16 * s + j))), aI (nI s), aI (nI j + 1), a, b, c], []) σ2 (ax_ct (fun w σ2 => w = aI (nI (mCn A r (16 * mU A 16 r))) ∧ ax_rm σ2 m M (mFol (mCan A r) r) ∧ ax_mf m M σ σ2) (fun _ _ => False)) := fun e a b c => by
        have en : mCn A r (16 * s + j + 1) = mCn A r (16 * s + j) := ax_n_no (p := fun y => mCc A r (y / 16) (y % 16)) (by rw [ec.1, ec.2]; exact e)
        rw [nI_1, ← en]
        exact ih2 σ2 a b c (by rw [show 16 * s + (j + 1) = 16 * s + j + 1 from rfl, mCanT_no hs8 hj e]; exact h2) f2
      have act : mCc A r s j = true → ∀ s0 : Int32, ax_wp e0 mo 5 105 (0, ax_entry 105 [aR m, aI (nI (pl r s j)), aI 5], []) σ2 (ax_ct (fun v σ3 => ax_wp e0 mo 6 118 (74, [aR m, aI (nI r), aI (nI (mCn A r (16 * s + j))), aI (nI s), aI (nI j), aI (nI (pl r s j)), aI s0, v7], ax_push v []) σ3 (ax_ct (fun w σ2 => w = aI (nI (mCn A r (16 * mU A 16 r))) ∧ ax_rm σ2 m M (mFol (mCan A r) r) ∧ ax_mf m M σ σ2) (fun _ _ => False))) (fun E σ3 => ax_exc 118 71 (ax_ct (fun w σ2 => w = aI (nI (mCn A r (16 * mU A 16 r))) ∧ ax_rm σ2 m M (mFol (mCan A r) r) ∧ ax_mf m M σ σ2) (fun _ _ => False)) E σ3)) := fun e s0 => by
        have en : mCn A r (16 * s + j + 1) = mCn A r (16 * s + j) + 1 := ax_n_yes (p := fun y => mCc A r (y / 16) (y % 16)) (by rw [ec.1, ec.2]; exact e)
        refine ax_use (ct_105 (s := 5) h2 (bT _) (tT _) hr hs8 hj (gT _)) rfl fun w σ3 hw3 => ?_
        obtain ⟨rfl, h3, f3⟩ := hw3
        have hq3 : (mQ (mUp (mCanT A r (16 * s + j)) 40 r s j 5)).length ≤ 800 := by
          have := List.length_filter_le (fun p => !(mCx A r (16 * s + j) p)) (mQ A)
          show ((mQ A).filter (fun p => !(mCx A r (16 * s + j) p))).length ≤ 800
          omega
        refine sg_118_74 (d := 5) ⟨ax_kd h3.1.1, ?_⟩
        refine ax_use (ct_113 h3 (by omega) hq3 fun x hx => by
          have hx : x ∈ (mQ A).filter (fun p => !(mCx A r (16 * s + j) p)) := hx
          have := mQ_small hQ hI (List.mem_filter.mp hx).1
          omega) rfl fun w σ4 hw4 => ?_
        obtain ⟨rfl, h4, f4⟩ := hw4
        have fall := (f2.trans f3).trans f4
        refine sg_118_80 (d := 5) ?_
        have hwB : ∀ w, mW (mCanT A r (16 * s + j)) w ≤ 10240 := fun w => by
          rw [mCanT_W]
          split
          · exact Nat.zero_le _
          · exact mW_small hW hI w
        refine ax_down (N := 4) (fun w => ∀ σ5, ax_but σ4 σ5 m M 20 24 → ax_mf m M σ σ5 → (∀ v, v < 4 → sgI σ5 20 v (M 20) = nI (mW (mCanT A r (if v < w then 16 * s + j + 1 else 16 * s + j)) v) - 1) → ax_wp e0 mo 6 118 (83, [aR m, aI (nI r), aI (nI (mCn A r (16 * s + j))), aI (nI s), aI (nI j), aI (nI (pl r s j)), aI s0, aI (nI w)], []) σ5 _) ?_ (fun w hw4' ih3 => ?_) 0 (Nat.zero_le _) σ4 (ax_but.refl _ _ _ _ _) fall (fun v hv => by
          rw [if_neg (Nat.not_lt_zero v)]
          exact h4.2.2.2.2.2.2.2.2.1 v hv)
        · intro σ5 b5 f5 c5
          refine sg_118_83 (d := 5) ⟨fun q => absurd q (by decide), fun _ => ?_⟩
          rw [nI_1, nI_1, ← en]
          refine ih2 σ5 _ _ _ ?_ f5
          refine rm_wk (A1 := mCanT A r (16 * s + j + 1)) h4 b5 (fun f r' k' j' hf => mCanT_yes1 hs8 hj e f r' k' j' hf) (Prod.ext (mCanT_yes2 hs8 hj e) rfl) fun v hv => ?_
          rw [c5 v hv, if_pos hv]
        · intro σ5 b5 f5 c5
          have s5 := b5.shape h4.1
          obtain ⟨g1, g2⟩ := s5.2.1 20 a20
          have iw : ax_in σ5 20 (M 20) (nI w) := ax_in_nI (n := 4) g2 hw4' (by decide)
          have cw : (nI w).toNatClampNeg = w := nI_clamp (by omega)
          have vw : sgI σ5 20 w (M 20) = nI (mW (mCanT A r (16 * s + j)) w) - 1 := by rw [c5 w hw4', if_neg (Nat.lt_irrefl w)]
          have y3 := mCanT_yes3 hs8 hj e w
          have hb := hwB w
          refine sg_118_83 (d := 5) ⟨fun _ => ⟨ax_kd s5.1, ax_kd s5.1, ?_⟩, fun z => absurd (nI_lt (b := 4) hw4' (by decide)) z⟩
          rw [g1, cw, vw, nI_1]
          refine ⟨iw, fun z => ⟨iw, ?_⟩, fun z => ⟨ax_kd s5.1, iw, iw, ?_⟩⟩
          · have z1 := (nI_p1eq (by omega) (by omega)).mp z
            rw [if_pos z1] at y3
            refine ih3 _ b5.put (f5.row a20 _ (Or.inl rfl)) fun v hv => ?_
            rw [gI_putI]
            by_cases q : v = w
            · rw [if_pos ⟨rfl, q, rfl⟩, q, if_pos (Nat.lt_succ_self w), y3]; rfl
            · rw [if_neg (fun z => q z.2.1), c5 v hv]
              by_cases q2 : v < w
              · rw [if_pos q2, if_pos (by omega)]
              · rw [if_neg q2, if_neg (by omega)]
          · have z1 := mt (nI_p1eq (by omega) (by omega)).mpr z
            rw [if_neg z1] at y3
            refine ih3 _ b5.put (f5.row a20 _ (Or.inl rfl)) fun v hv => ?_
            rw [gI_putI]
            by_cases q : v = w
            · rw [if_pos ⟨rfl, q, rfl⟩, q, if_pos (Nat.lt_succ_self w), y3]
            · rw [if_neg (fun z => q z.2.1), c5 v hv]
              by_cases q2 : v < w
              · rw [if_pos q2, if_pos (by omega)]
              · rw [if_neg q2, if_neg (by omega)]
      obtain ⟨w1, w2, w3, w4⟩ := rm_st h2 (f := 9) (by decide) (by decide) hs8
      have w4 : sgI σ2 21 s (M 9) = nI (mS A 9 s) := by
        have e : mS (mCanT A r (16 * s + j)) 9 s = mS A 9 s := mCanT_f A (by decide) (by decide) s 0 0
        rw [← e]; exact w4
      have e9 : mP A 9 r s = mS A 9 s := (hN r hr hG).2 s 9 hs (by decide) (by decide)
      have b9 : mS A 9 s ≤ 1 := (hI.2.2.1 s).2.2.2.2
      refine sg_118_39 (d := 5) (pk_eq (mJ A 0 r s j) 0 (fun z => ⟨ax_kd h2.1.1, act ?_ _⟩) (fun z0 => pk_eq (mJ A 0 r s j) 1 (fun z => ⟨ax_kd h2.1.1, act ?_ _⟩) (fun z1 => pk_eq (mJ A 0 r s j) 2 (fun z => ⟨ax_kd h2.1.1, ?_⟩) (fun z2 => ?_))))
      · unfold mCc; rw [z]; rfl
      · unfold mCc; rw [z]; rfl
      · rw [w1, w3, w4]
        refine ⟨w2, pk_eq (mS A 9 s) 0 (fun y => skip ?_ _ _ _) (fun y => ⟨ax_kd h2.1.1, act ?_ _⟩)⟩
        · unfold mCc; rw [z, e9, y]; rfl
        · have y1 : mS A 9 s = 1 := by omega
          unfold mCc; rw [z, e9, y1]; rfl
      · refine skip ?_ _ _ _
        unfold mCc; rw [nb_ne z0, nb_ne z1, nb_ne z2]; rfl
def oCancel (A : MS) (x : Int32) : OC := bif inB x (mR A) then (bif Nat.beq (mU A 11 x.toNatClampNeg) 7 then ((0, nI (mCn A x.toNatClampNeg (16 * mU A 16 x.toNatClampNeg))), mFol (mCan A x.toNatClampNeg) x.toNatClampNeg) else ((2, 0), A)) else ((1, 0), A)
end
end AXMR
