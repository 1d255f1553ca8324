/-! The class: workers of stopped jobs are free; a run is cancelled. -/
section AXRH
/-- the first t workers whose job was stopped are free -/
def mWcl (A : MS) (t : Nat) : MS := (fun f r k j => if f = 50 ∧ r < t ∧ mW A r ≠ 0 ∧ mJp A 0 (mW A r - 1) = 5 then 0 else A.1 f r k j, A.2)
theorem mWcl_f (A : MS) {t f : Nat} (h : f ≠ 50) (r k j : Nat) : (mWcl A t).1 f r k j = A.1 f r k j := if_neg fun z => h z.1
theorem mWcl_0 (A : MS) : mWcl A 0 = A := by
  refine Prod.ext ?_ rfl
  funext f r k j
  exact if_neg fun z => Nat.not_lt_zero _ z.2.1
theorem mWcl_W (A : MS) (t w : Nat) : mW (mWcl A t) w = if w < t ∧ mW A w ≠ 0 ∧ mJp A 0 (mW A w - 1) = 5 then 0 else mW A w := by
  show (if (50 : Nat) = 50 ∧ w < t ∧ mW A w ≠ 0 ∧ mJp A 0 (mW A w - 1) = 5 then 0 else A.1 50 w 0 0) = _
  by_cases z : w < t ∧ mW A w ≠ 0 ∧ mJp A 0 (mW A w - 1) = 5
  · rw [if_pos ⟨rfl, z⟩, if_pos z]
  · rw [if_neg (fun y => z y.2), if_neg z]
theorem mWcl_no {A : MS} {t : Nat} (h : ¬ (mW A t ≠ 0 ∧ mJp A 0 (mW A t - 1) = 5)) : mWcl A (t + 1) = mWcl A t := by
  refine Prod.ext ?_ rfl
  funext f r k j
  show (if _ then _ else _) = (if _ then _ else _)
  by_cases z : f = 50 ∧ r < t ∧ mW A r ≠ 0 ∧ mJp A 0 (mW A r - 1) = 5
  · rw [if_pos z, if_pos ⟨z.1, Nat.lt_succ_of_lt z.2.1, z.2.2⟩]
  · rw [if_neg z, if_neg]
    rintro ⟨z1, z2, z3⟩
    rcases Nat.lt_succ_iff_lt_or_eq.mp z2 with q | q
    · exact z ⟨z1, q, z3⟩
    · rw [q] at z3; exact h z3
/-- the workers' jobs are jobs that there are -/
def wOK (A : MS) : Prop := ∀ w p, mW A w = p + 1 → pR p < mR A ∧ pK p < mU A 16 (pR p) ∧ mJp A 0 p < 7
section
variable {e0 mo : Nat} {σ σ' σ1 : SG} {x : Nat} {L : LY} {A A' : MS} {r k j p w : Nat}
theorem ct_82 (h : ax_rc e0 σ x L A) (hok : wOK A) : ax_ok e0 mo 0 82 [aR x] σ (fun w σ2 => w = aU ∧ ax_rc e0 σ2 x L (mWcl A 4) ∧ cl_fr σ L σ2 L 0 0) := by
  refine sg_82_0 ?_
  refine ax_down (N := 4) (fun t => ∀ (σ1 : SG) (v : AV), ax_rc e0 σ1 x L (mWcl A t) → cl_fr σ L σ1 L 0 0 → ax_wp e0 mo 0 82 (2, [aR x, aI (nI t), v], []) σ1 _) ?_ (fun t ht ih => ?_) 0 (Nat.zero_le _) σ aU (by rw [mWcl_0]; exact h) (fr_refl σ L)
  · intro σ1 v h1 f1
    obtain ⟨f0, f1', f2, f3, f4, f5, f6, f7, f8⟩ := xf h1
    refine sg_82_2 ⟨ax_kd f0, ?_⟩
    rw [f4, f6]
    exact ⟨⟨by decide, by decide⟩, fun q => absurd q (by decide), fun _ => ⟨rfl, h1, f1⟩⟩
  · intro σ1 v h1 f1
    obtain ⟨f0, f1', f2, f3, f4, f5, f6, f7, f8⟩ := xf h1
    obtain ⟨w1, w2, w3⟩ := wk_at h1 ht
    have eW : mW (mWcl A t) t = mW A t := by rw [mWcl_W, if_neg (fun z => Nat.lt_irrefl _ z.1)]
    rw [eW] at w3
    refine sg_82_2 ⟨ax_kd f0, ?_⟩
    rw [f4, f6, w2, w3]
    refine ⟨⟨by decide, by decide⟩, fun _ => ⟨ax_kd f0, w1, ?_⟩, fun q => absurd (nI_lt (b := 4) ht (by decide)) q⟩
    by_cases z : mW A t = 0
    · rw [if_pos z]
      refine ⟨fun _ => ?_, fun q => absurd rfl q⟩
      rw [nI_1]
      exact ih σ1 _ (by rw [mWcl_no (fun y => y.1 z)]; exact h1) f1
    · rw [if_neg z]
      obtain ⟨p1, p2, p3⟩ := hok t (mW A t - 1) (by omega)
      have hj := h1.2.2.2.2.2.1 _ _ _ (show pR (mW A t - 1) < mR (mWcl A t) from p1) (show pK (mW A t - 1) < mU (mWcl A t) 16 (pR (mW A t - 1)) from p2) (pl_of (mW A t - 1)).2.2 (show mJp A 0 (mW A t - 1) ≠ 8 by omega)
      refine ⟨fun q => absurd q (Nat.pos_iff_ne_zero.mp hj.1.1), fun _ => ⟨ax_kd hj.1.2.1, ?_⟩⟩
      have e5 : sgI σ1 2 2 (gJp L (mW A t - 1)) = nI (mJp A 0 (mW A t - 1)) := by
        have := hj.2.1
        rw [show mSt (mJ (mWcl A t) 0 (pR (mW A t - 1)) (pK (mW A t - 1)) (pJ (mW A t - 1))) = mJp A 0 (mW A t - 1) from if_neg (show ¬ mJp A 0 (mW A t - 1) = 7 by omega)] at this
        exact this
      rw [e5]
      refine pk_eq (mJp A 0 (mW A t - 1)) 5 (fun q => ⟨ax_kd f0, ⟨Or.inl rfl, w1⟩, ?_⟩) (fun q => ?_)
      · rw [nI_1]
        refine ih _ _ (rc_wk h1 (fun f r k j a => by rw [mWcl_f A a, mWcl_f A a]) rfl fun u hu => ?_) (fr_R f1 (by decide))
        rw [mWcl_W]
        by_cases y : u = t
        · rw [if_pos y, if_pos (show u < t + 1 ∧ mW A u ≠ 0 ∧ mJp A 0 (mW A u - 1) = 5 from ⟨by omega, by rw [y]; exact ⟨z, q⟩⟩), if_pos rfl]
        · rw [if_neg y, (wk_at h1 hu).2.2, mWcl_W]
          by_cases c : u < t ∧ mW A u ≠ 0 ∧ mJp A 0 (mW A u - 1) = 5
          · rw [if_pos c, if_pos (show u < t + 1 ∧ mW A u ≠ 0 ∧ mJp A 0 (mW A u - 1) = 5 from ⟨by omega, c.2⟩)]
          · rw [if_neg c, if_neg (show ¬ (u < t + 1 ∧ mW A u ≠ 0 ∧ mJp A 0 (mW A u - 1) = 5) from fun c' => c ⟨by omega, c'.2⟩)]
      · rw [nI_1]
        exact ih σ1 _ (by rw [mWcl_no (fun y => q y.2)]; exact h1) f1
/-- a run that was cancelled may be at its end -/
def mEnc (A : MS) (r : Nat) : MS := bif Nat.beq (mU A 11 r) 8 then (bif Nat.beq (mRun A r (mU A 16 r)) 0 then mEnd A r 5 else A) else A
theorem ct_78 (h : ax_rc e0 σ x L A) (hI : mB A) (hr : r < mR A) : ax_ok e0 mo 4 78 [aR x, aR (gU L 0 r)] σ (fun w σ2 => w = aU ∧ ax_rc e0 σ2 x L (mEnc A r) ∧ cl_fr σ L σ2 L 0 0) := by
  obtain ⟨a1, a2, a3, a4, a5, a6, a7, a8⟩ := ru_at h hr
  have hu : mU A 11 r < 16 := by have := (hI.2.2.2.2.1 r hr).1; omega
  refine sg_78_0 (d := 3) ⟨ax_kd a1, ?_⟩
  rw [a6]
  unfold mEnc
  refine pk_eq (mU A 11 r) 8 (fun q => ⟨ax_kd a1, ax_use0 (ct_25 h hI hr) rfl ?_⟩) (fun q => ?_)
  · rw [q]
    refine sg_78_13 (d := 3) ⟨fun y => ?_, fun y => ?_⟩
    · have e : Nat.beq (mRun A r (mU A 16 r)) 0 = true := by
        have := bI0 y
        cases c : Nat.beq (mRun A r (mU A 16 r)) 0 with
        | true => rfl
        | false => rw [c] at this; cases this
      rw [e]
      exact ⟨ax_kd a1, rfl, rc_run h hI hr (s := 5) rfl, fr_I (fr_refl σ L) (by decide)⟩
    · have e : Nat.beq (mRun A r (mU A 16 r)) 0 = false := by
        have := bI1 y
        cases c : Nat.beq (mRun A r (mU A 16 r)) 0 with
        | false => rfl
        | true => rw [c] at this; cases this
      rw [e]
      exact ⟨rfl, h, fr_refl σ L⟩
  · rw [nb_ne q]
    exact ⟨rfl, h, fr_refl σ L⟩
theorem mB_endR (h : mB A) {s : Nat} (hs : s = 7 ∨ s = 8 ∨ s = 9 ∨ s = 10 ∨ s = 5) : mB (mEnd A r s) := mB_cong (fun f r' k j a b => mUp_f A b r' k j) (fun r' hr' => by
    by_cases q : r' = r
    · rw [q, show mU (mEnd A r s) 11 r = s from mUp_at A 11 r 0 0 s]; exact hs
    · rw [show mU (mEnd A r s) 11 r' = mU A 11 r' from mUp_ne A (fun z => q z.1)]; exact (h.2.2.2.2.1 r' hr').1) (fun r' k j hr' => h.2.2.2.2.2 r' k j hr') h
theorem mPB_endR (h : mPB A) {s : Nat} : mPB (mEnd A r s) := mPB_cong (fun f r' k j a b => mUp_f A b r' k j) h
theorem mCaR_p (A : MS) (r x p : Nat) : mJp (mCaR (mEnd A r 8) r x) 0 p = if mCx A r x p = true then 5 else mJp A 0 p := by
  show mJ (mCaR (mEnd A r 8) r x) 0 (pR p) (pK p) (pJ p) = _
  rw [mCaR_J, mCanT_J _ (pl_of p).2.1 (pl_of p).2.2, (pl_of p).1]
  rfl
theorem caR_all (hQ : mQI A) (hW : mWI A) (r x : Nat) : mWcl ((mCaR (mEnd A r 8) r x).1, (mQ A).filter (fun p => Nat.beq (mJp (mCaR (mEnd A r 8) r x) 0 p) 1), mE A) 4 = mUp (mCanT A r x) 11 r 0 0 8 := by
  refine Prod.ext (funext fun f => funext fun r' => funext fun k' => funext fun j' => ?_) (Prod.ext (List.filter_congr fun p hp => ?_) rfl)
  · show (if f = 50 ∧ r' < 4 ∧ mW A r' ≠ 0 ∧ mJp (mCaR (mEnd A r 8) r x) 0 (mW A r' - 1) = 5 then 0 else (mCaR (mEnd A r 8) r x).1 f r' k' j') = (mUp (mCanT A r x) 11 r 0 0 8).1 f r' k' j'
    by_cases a : f = 50
    · subst a
      rw [mUp_f _ (by decide), mCaR_f _ (by decide), mUp_f _ (by decide)]
      show _ = (if (50 : Nat) = 40 ∧ k' < 8 ∧ j' < 16 ∧ mCx A r x (pl r' k' j') = true then 5 else if (50 : Nat) = 50 ∧ mW A r' ≠ 0 ∧ mCx A r x (mW A r' - 1) = true then 0 else A.1 50 r' k' j')
      rw [if_neg (show ¬ ((50 : Nat) = 40 ∧ k' < 8 ∧ j' < 16 ∧ mCx A r x (pl r' k' j') = true) from fun z => absurd z.1 (by decide)), mCaR_p]
      by_cases c : mW A r' ≠ 0 ∧ mCx A r x (mW A r' - 1) = true
      · have h4 : r' < 4 := by
          rcases Nat.lt_or_ge r' 4 with y | y
          · exact y
          · exact absurd (hW.1 r' y) c.1
        rw [if_pos c.2, if_pos ⟨rfl, h4, c.1, rfl⟩, if_pos ⟨rfl, c⟩]
      · rw [if_neg (show ¬ ((50 : Nat) = 50 ∧ mW A r' ≠ 0 ∧ mCx A r x (mW A r' - 1) = true) from fun z => c z.2)]
        by_cases d : mW A r' = 0
        · rw [if_neg (fun z => z.2.2.1 d)]
        · rw [if_neg (show ¬ (mCx A r x (mW A r' - 1) = true) from fun z => c ⟨d, z⟩)]
          have e2 : mJp A 0 (mW A r' - 1) = 2 := (hW.2.2 r' (mW A r' - 1) (by omega)).2.2
          rw [if_neg]
          rintro ⟨-, -, -, z⟩
          rw [e2] at z
          exact absurd z (by decide)
    · rw [if_neg (fun z => a z.1)]
      by_cases b : f = 40
      · subst b
        rw [mUp_f _ (by decide), show (mCaR (mEnd A r 8) r x).1 40 r' k' j' = mJ (mCanT (mEnd A r 8) r x) 0 r' k' j' from mCaR_J _ r x r' k' j']
        show _ = mJ (mCanT A r x) 0 r' k' j'
        by_cases z : k' < 8 ∧ j' < 16
        · rw [mCanT_J _ z.1 z.2, mCanT_J A z.1 z.2]; rfl
        · rw [mCanT_J' _ z, mCanT_J' A z]; rfl
      · rw [mCaR_f _ b]
        show (if _ then _ else A.1 f r' k' j') = (if _ then _ else (mCanT A r x).1 f r' k' j')
        rw [mCanT_f A b a]
  · show Nat.beq (mJp (mCaR (mEnd A r 8) r x) 0 p) 1 = !(mCx A r x p)
    rw [mCaR_p]
    have e1 : mJp A 0 p = 1 := (hQ.2 p hp).2.2
    cases mCx A r x p with
    | true => rfl
    | false => rw [if_neg (by decide), e1]; rfl
theorem ct_80 (h : ax_rc e0 σ x L A) (hJJ : mJJ A) (hr : r < mR A) (h7 : mU A 11 r = 7) : ax_ok e0 mo 5 80 [aR x, aR (gU L 0 r)] σ (fun w σ2 => w = aI (nI (mCn A r (16 * mU A 16 r))) ∧ ax_rc e0 σ2 x L (mFol (mCan A r) r) ∧ cl_fr σ L σ2 L 0 0) := by
  obtain ⟨⟨hI, hP, hN⟩, hGo, hQ, hW, hJI, hE, h60⟩ := id hJJ
  obtain ⟨a1, a2, a3, a4, a5, a6, a7, a8⟩ := ru_at h hr
  have hB1 : mB (mEnd A r 8) := mB_endR hI (by decide)
  have hP1 : mPB (mEnd A r 8) := mPB_endR hP
  have hok := qOK_of hJJ
  have f0 := (xf h).1
  have jj := mJJ_can hJJ hr h7
  refine sg_80_0 (d := 4) ⟨ax_kd a1, ax_kd a1, ax_use (ct_26 (rc_run h hI hr (s := 8) rfl) hB1 hP1 hr) rfl fun w σ2 hw => ?_⟩
  obtain ⟨rfl, h2, g2⟩ := hw
  have h2 : ax_rc e0 σ2 x L (mCaR (mEnd A r 8) r (16 * mU A 16 r)) := h2
  refine sg_80_10 (d := 4) ⟨ax_kd (xf h2).1, ax_use (ct_81 h2 (mB_caR hB1) (show (mQ A).length ≤ 900 from Nat.le_trans (mQ_len hGo hQ) (by decide)) (fun q hq => ?_)) rfl fun w σ3 hw => ?_⟩
  · obtain ⟨q1, q2, q3⟩ := hok q hq
    refine ⟨q1, q2, ?_⟩
    rw [mCaR_p]
    split
    · decide
    · exact q3
  · obtain ⟨rfl, h3, g3⟩ := hw
    refine sg_80_15 (d := 4) ⟨ax_kd (xf h3).1, ax_use (ct_82 h3 (fun w p hw => ?_)) rfl fun w σ4 hw => ?_⟩
    · obtain ⟨p1, p2, p3, p4, p5, p6⟩ := wj_at h hJJ (w := w) (p := p) hw
      refine ⟨p1, p2, ?_⟩
      show mJp (mCaR (mEnd A r 8) r (16 * mU A 16 r)) 0 p < 7
      rw [mCaR_p, p4]
      split <;> decide
    · obtain ⟨rfl, h4, g4⟩ := hw
      have h4 : ax_rc e0 σ4 x L (mCan A r) := by
        have e := caR_all hQ hW r (16 * mU A 16 r)
        unfold mCan
        rw [← e]
        exact h4
      have e11 : mU (mCan A r) 11 r = 8 := mUp_at _ 11 r 0 0 8
      refine sg_80_19 (d := 4) ⟨ax_kd (xf h4).1, ax_use (ct_78 h4 jj.1.1 hr) rfl fun w σ5 hw => ?_⟩
      obtain ⟨rfl, h5, g5⟩ := hw
      refine sg_80_24 (d := 4) ⟨rfl, ?_, fr_trans (fr_trans (fr_trans (fr_I (fr_refl σ L) (k := 4) (i := 4) (q := gU L 0 r) (v := 8) (by decide)) g2) g3) (fr_trans g4 g5)⟩
      have e : mFol (mCan A r) r = mEnc (mCan A r) r := by
        unfold mFol
        rw [e11]
        show mFin (mCan A r) r = _
        unfold mFin mEnc
        rw [e11]
        rfl
      rw [e]
      exact h5
end
end AXRH
