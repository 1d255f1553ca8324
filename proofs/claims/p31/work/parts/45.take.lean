/-! cancel, take: the reference. -/
section AXMS2
/-- the state of the place p -/
abbrev mJp (A : MS) (f p : Nat) : Nat := mJ A f (pR p) (pK p) (pJ p)
abbrev mUpp (A : MS) (f p v : Nat) : MS := mUp A f (pR p) (pK p) (pJ p) v
/-- the worker w takes the job p, but for what it restores -/
def mTk (A : MS) (w p : Nat) : MS := mUpp (mUpp (mUp (A.1, (mQ A).tail, mE A) 50 w 0 0 (p + 1)) 40 p 2) 41 p (mJp A 1 p + 1)
def oTake (A : MS) (x : Int32) : OC := bif inB x 4 then (bif Nat.beq (mW A x.toNatClampNeg) 0 then (bif Nat.beq (mQ A).length 0 then ((0, -1), A) else ((0, nI (pJ ((mQ A).getD 0 0))), mRes (mTk A x.toNatClampNeg ((mQ A).getD 0 0)) (pR ((mQ A).getD 0 0)) (pK ((mQ A).getD 0 0)) (pJ ((mQ A).getD 0 0)))) else ((2, 0), A)) else ((1, 0), A)
theorem filt_tail {p : Nat} {q : List Nat} (hn : (p :: q).Nodup) : (p :: q).filter (fun x => !(Nat.beq x p)) = q := by
  obtain ⟨h1, h2⟩ := List.nodup_cons.mp hn
  rw [List.filter_cons, if_neg (by rw [Nat.beq_refl]; decide)]
  refine List.filter_eq_self.mpr fun a ha => ?_
  rw [nb_ne (show a ≠ p from fun z => h1 (by rw [← z]; exact ha))]
  rfl
section
variable {A : MS} {r k : Nat}
/-- one job has another state -/
theorem mJJ_one (h : mJJ A) {A' : MS} {p s : Nat} (hp : pR p < mR A) (hs : 1 ≤ s ∧ s ≤ 7) (ho : mJp A 0 p ≠ 0 ∧ mJp A 0 p ≠ 8) (lo : ∀ f r k j, f < 40 → A'.1 f r k j = A.1 f r k j) (e0 : mJp A' 0 p = s) (e1 : ∀ q, q ≠ p → mJp A' 0 q = mJp A 0 q) (e2 : ∀ r k j, ¬ (k < 8 ∧ j < 16) → mJ A' 0 r k j = mJ A 0 r k j) (hb : ∀ r k j, r < mR A → mJ A' 2 r k j ≤ 2 ∧ mJ A' 3 r k j ≤ 4) (hc : mU A 11 (pR p) = 8 → s ≠ 1) (hE : mEB A') (h60 : A'.1 60 0 0 0 = 0) (hQ : mQI A') (hW : mWI A') : mJJ A' := by
  obtain ⟨⟨hB, hP, hN⟩, hGo, -, -, hJ, -, -⟩ := h
  have eU : ∀ f r, f < 40 → mU A' f r = mU A f r := fun f r a => lo f r 0 0 a
  have lo' : ∀ f r k j, f < 40 → f ≠ 11 → A'.1 f r k j = A.1 f r k j := fun f r k j a _ => lo f r k j a
  have eR : mR A' = mR A := lo 10 0 0 0 (by decide)
  have eG : ∀ r, mG A' r ↔ mG A r := fun r => by unfold mG; rw [eU 11 r (by decide)]
  have key : ∀ r k j, mJ A' 0 r k j = s ∧ r = pR p ∧ k = pK p ∧ j = pJ p ∨ mJ A' 0 r k j = mJ A 0 r k j ∧ ¬ (r = pR p ∧ k = pK p ∧ j = pJ p) := fun r k j => by
    by_cases z : r = pR p ∧ k = pK p ∧ j = pJ p
    · left
      refine ⟨?_, z⟩
      obtain ⟨rfl, rfl, rfl⟩ := z
      exact e0
    · right
      refine ⟨?_, z⟩
      by_cases q : k < 8 ∧ j < 16
      · have := e1 (pl r k j) (fun w => z ?_)
        · obtain ⟨p1, p2, p3⟩ := pl_parts (r := r) q.1 q.2
          unfold mJp at this
          rw [show pR (pl r k j) = r from p1, show pK (pl r k j) = k from p2, show pJ (pl r k j) = j from p3] at this
          exact this
        · obtain ⟨p1, p2, p3⟩ := pl_parts (r := r) q.1 q.2
          rw [← w]
          exact ⟨p1.symm, p2.symm, p3.symm⟩
      · exact e2 r k j q
  have hkm : pK p < mU A 16 (pR p) := by
    rcases Nat.lt_or_ge (pK p) (mU A 16 (pR p)) with q | q
    · exact q
    · exact absurd (hJ.1 _ _ (pJ p) hp q) ho.2
  refine ⟨⟨mB_cong lo' (fun r hr => ?_) (fun r k j hr => ?_) hB, mPB_cong lo' hP, mNow_cong lo' (fun r _ z => (eG r).mp z) hN⟩, ?_, hQ, hW, ⟨fun r k j hr hk => ?_, fun r k j hr h8 hj => ?_, fun r k j j' hr h1 h2 h3 => ?_⟩, hE, h60⟩
  · rw [eU 11 r (by decide)]; exact (hB.2.2.2.2.1 r hr).1
  · refine ⟨?_, hb r k j hr⟩
    rcases key r k j with q | q
    · rw [q.1]; omega
    · rw [q.1]; exact (hB.2.2.2.2.2 r k j hr).1
  · rw [mGo_cong eR (fun r _ => by unfold mGb; rw [eU 11 r (by decide)])]
    exact hGo
  · rw [eR] at hr
    rw [eU 16 r (by decide)] at hk
    rcases key r k j with ⟨-, q1, q2, -⟩ | q
    · rw [q1, q2] at hk; omega
    · rw [q.1]; exact hJ.1 r k j hr hk
  · rw [eR] at hr
    rw [eU 11 r (by decide)] at h8
    rcases key r k j with ⟨q, q1, q2, -⟩ | q
    · rw [q]
      rw [q1] at h8
      exact ⟨by omega, hc h8⟩
    · rw [q.1]; exact hJ.2.1 r k j hr h8 hj
  · rw [eR] at hr
    have hne : ¬ (r = pR p ∧ k = pK p) := fun z => by
      rcases key r k j with ⟨q, -⟩ | ⟨q, -⟩
      · rw [q] at h3; omega
      · rw [q] at h3
        have := hJ.2.2 r k j (pJ p) hr h1 (pl_of p).2.2 h3
        rw [z.1, z.2] at this
        exact this.elim ho.1 ho.2
    rcases key r k j with ⟨-, q1, q2, -⟩ | ⟨q, -⟩
    · exact absurd ⟨q1, q2⟩ hne
    · rcases key r k j' with ⟨-, q1, q2, -⟩ | ⟨q', -⟩
      · exact absurd ⟨q1, q2⟩ hne
      · rw [q] at h3
        rw [q']
        exact hJ.2.2 r k j j' hr h1 h2 h3
theorem mRot_mem {es : List (Nat × Nat)} {i : Nat} (hi : i < es.length) {e : Nat × Nat} (h : e ∈ mRot es i) : e ∈ es := by
  unfold mRot at h
  rcases List.mem_append.mp h with q | q
  · exact List.mem_of_mem_eraseIdx q
  · rw [List.mem_singleton.mp q, List.getD_eq_getElem?_getD, List.getElem?_eq_getElem hi]
    exact List.getElem_mem hi
theorem mFn_small (A : MS) (r k : Nat) : (mFn A r k).1 ≤ (mE A).length := (mFnd_ok A r k (mS A 6 k) (mE A).length).1
/-- what is restored, and which entry is used, changes nothing else -/
theorem mJJ_res (h : mJJ A) (hr : r < mR A) (k j : Nat) : mJJ (mRes A r k j) := by
  obtain ⟨⟨hB, hP, hN⟩, hGo, hQ, hW, hJ, hE, h60⟩ := id h
  unfold mRes
  cases q0 : Nat.beq (mS A 6 k) 0 with
  | true => exact h
  | false =>
    show mJJ ((mUp A 43 r k j ((bif Nat.beq (mFn A r k).1 0 then 0 else (mFn A r k).2) + 1)).1, mQ A, bif Nat.beq (mFn A r k).1 0 then mE A else mRot (mE A) ((mFn A r k).1 - 1))
    have b1 := mFn_small A r k
    have b2 := (mFnd_ok A r k (mS A 6 k) (mE A).length).2.2
    have b3 := (hB.2.2.1 k).2.1
    have b2 : (mFn A r k).2 ≤ max (mS A 6 k) 1 := b2
    have bv : (bif Nat.beq (mFn A r k).1 0 then 0 else (mFn A r k).2) ≤ 3 := by
      cases Nat.beq (mFn A r k).1 0
      · exact Nat.le_trans b2 (Nat.max_le.mpr ⟨b3, by decide⟩)
      · exact Nat.zero_le _
    generalize (bif Nat.beq (mFn A r k).1 0 then 0 else (mFn A r k).2) = v at bv
    have hEm : ∀ e, e ∈ (bif Nat.beq (mFn A r k).1 0 then mE A else mRot (mE A) ((mFn A r k).1 - 1)) → e ∈ mE A := by
      cases q1 : Nat.beq (mFn A r k).1 0 with
      | true => exact fun e he => he
      | false =>
        have := ax_bnq q1
        exact fun e he => mRot_mem (by omega) he
    have hEl : (bif Nat.beq (mFn A r k).1 0 then mE A else mRot (mE A) ((mFn A r k).1 - 1)).length = (mE A).length := by
      cases q1 : Nat.beq (mFn A r k).1 0 with
      | true => rfl
      | false =>
        have := ax_bnq q1
        exact mRot_len (by omega)
    generalize (bif Nat.beq (mFn A r k).1 0 then mE A else mRot (mE A) ((mFn A r k).1 - 1)) = es at hEm hEl
    have lo : ∀ f r' k' j', f < 40 → f ≠ 11 → ((mUp A 43 r k j (v + 1)).1, mQ A, es).1 f r' k' j' = A.1 f r' k' j' := fun f r' k' j' a _ => mUp_f A (by omega) r' k' j'
    refine ⟨⟨mB_cong lo (fun r' hr' => (hB.2.2.2.2.1 r' hr').1) (fun r' k' j' hr' => ?_) hB, mPB_cong lo hP, mNow_cong lo (fun r' _ z => z) hN⟩, hGo, hQ, hW, hJ, ⟨by show es.length ≤ 10; rw [hEl]; exact hE.1, fun e he => hE.2 e (hEm e he)⟩, h60⟩
    obtain ⟨h1, h2, h3⟩ := hB.2.2.2.2.2 r' k' j' hr'
    refine ⟨h1, h2, ?_⟩
    show (mUp A 43 r k j (v + 1)).1 43 r' k' j' ≤ 4
    by_cases z : r' = r ∧ k' = k ∧ j' = j
    · obtain ⟨rfl, rfl, rfl⟩ := z
      rw [mUp_at]; omega
    · rw [mUp_ne _ z]; exact h3
theorem mT_res (h : mT A) (r k j : Nat) : mT (mRes A r k j) := by
  unfold mRes
  cases Nat.beq (mS A 6 k) 0
  · exact h
  · exact h
/-- attempts, counted by calls -/
def mTn (A : MS) (n : Nat) : Prop := ∀ r k j, mJ A 1 r k j ≤ n
theorem mTn_T {n : Nat} (h : mTn A n) (hn : n ≤ 1000) : mT A := fun r k j => Nat.le_trans (h r k j) hn
theorem mTk_T {n w p : Nat} (h : mTn A n) : mTn (mTk A w p) (n + 1) := fun r k j => by
  show (mUp _ 41 (pR p) (pK p) (pJ p) (mJp A 1 p + 1)).1 41 r k j ≤ n + 1
  by_cases z : r = pR p ∧ k = pK p ∧ j = pJ p
  · obtain ⟨rfl, rfl, rfl⟩ := z
    rw [mUp_at]
    have := h (pR p) (pK p) (pJ p)
    show mJ A 1 (pR p) (pK p) (pJ p) + 1 ≤ _
    omega
  · rw [mUp_ne _ z]
    exact Nat.le_succ_of_le (h r k j)
theorem mJJ_tk (h : mJJ A) {w p : Nat} {q : List Nat} (hw4 : w < 4) (hw : mW A w = 0) (hq : mQ A = p :: q) : mJJ (mTk A w p) := by
  obtain ⟨⟨hB, hP, hN⟩, hGo, hQ, hW, hJ, hE, h60⟩ := id h
  have hpm : p ∈ mQ A := by rw [hq]; exact List.mem_cons_self ..
  obtain ⟨p1, p2, p3⟩ := hQ.2 p hpm
  have hn := hQ.1
  rw [hq] at hn
  obtain ⟨n1, n2⟩ := List.nodup_cons.mp hn
  have e0 : mJp (mTk A w p) 0 p = 2 := (mUp_f _ (by decide) (pR p) (pK p) (pJ p)).trans (mUp_at _ 40 (pR p) (pK p) (pJ p) 2)
  have e1 : ∀ q, q ≠ p → mJp (mTk A w p) 0 q = mJp A 0 q := fun q hq => (mUp_f _ (by decide) (pR q) (pK q) (pJ q)).trans ((mUp_ne _ (fun z => hq (by rw [← (pl_of q).1, ← (pl_of p).1, z.1, z.2.1, z.2.2]))).trans (mUp_f _ (by decide) (pR q) (pK q) (pJ q)))
  have e50 : ∀ v, mW (mTk A w p) v = if v = w then p + 1 else mW A v := fun v => by
    show (mUp (A.1, (mQ A).tail, mE A) 50 w 0 0 (p + 1)).1 50 v 0 0 = _
    by_cases z : v = w
    · rw [if_pos z, z, mUp_at]
    · rw [if_neg z, mUp_ne _ (fun y => z y.1)]
  have lo : ∀ f r k j, f < 40 → (mTk A w p).1 f r k j = A.1 f r k j := fun f r k j a => (mUp_f _ (by omega) r k j).trans ((mUp_f _ (by omega) r k j).trans (mUp_f _ (by omega) r k j))
  have ho : mJp A 0 p ≠ 0 ∧ mJp A 0 p ≠ 8 := by
    show mJ A 0 (pR p) (pK p) (pJ p) ≠ 0 ∧ mJ A 0 (pR p) (pK p) (pJ p) ≠ 8
    rw [p3]; exact ⟨by decide, by decide⟩
  have nw : ∀ v, mW A v ≠ p + 1 := fun v z => by
    have := (hW.2.2 v p z).2.2
    rw [p3] at this
    cases this
  have hG : ∀ r, mG (mTk A w p) r ↔ mG A r := fun r => Iff.rfl
  refine mJJ_one h (s := 2) p1 (by decide) ho lo e0 e1 (fun r k j z => ?_) (fun r k j hr => ?_) (fun _ => by decide) (mEB_cong (fun f r k j a _ => lo f r k j a) rfl hE) h60 ⟨?_, fun x hx => ?_⟩ ⟨fun v hv => ?_, fun u v h1 h2 => ?_, fun v x hx => ?_⟩
  · refine (mUp_f _ (by decide) r k j).trans ((mUp_ne _ (fun y => z ?_)).trans (mUp_f _ (by decide) r k j))
    obtain ⟨_, rfl, rfl⟩ := y
    exact (pl_of p).2
  · exact ⟨(hB.2.2.2.2.2 r k j hr).2.1, (hB.2.2.2.2.2 r k j hr).2.2⟩
  · show (mQ A).tail.Nodup
    rw [hq]; exact n2
  · have hx : x ∈ (mQ A).tail := hx
    rw [hq] at hx
    have hx : x ∈ q := hx
    obtain ⟨g1, g2, g3⟩ := hQ.2 x (by rw [hq]; exact List.mem_cons_of_mem _ hx)
    refine ⟨g1, g2, (e1 x (fun z => n1 (by rw [← z]; exact hx))).trans g3⟩
  · rw [e50, if_neg (by omega)]; exact hW.1 v hv
  · rw [e50] at h1 h2
    rw [e50] at h2
    by_cases z : u = w
    · by_cases y : v = w
      · rw [z, y]
      · rw [if_pos z, if_neg y] at h2
        exact absurd h2.symm (nw v)
    · rw [if_neg z] at h1 h2
      by_cases y : v = w
      · rw [if_pos y] at h2
        exact absurd h2 (nw u)
      · rw [if_neg y] at h2
        exact hW.2.1 u v h1 h2
  · rw [e50] at hx
    by_cases z : v = w
    · rw [if_pos z] at hx
      obtain rfl : p = x := by omega
      exact ⟨p1, p2, e0⟩
    · rw [if_neg z] at hx
      obtain ⟨g1, g2, g3⟩ := hW.2.2 v x hx
      exact ⟨g1, g2, (e1 x (fun y => nw v (by rw [hx, y]))).trans g3⟩
end
section
variable {e0 mo : Nat} {σ : SG} {m : Nat} {M : Nat → Nat} {A : MS} {r k j : Nat}
end
end AXMS2
