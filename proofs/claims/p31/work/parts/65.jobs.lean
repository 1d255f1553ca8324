/-! The class's jobs and queue are written. -/
section AXRF
/-- the queue's places are jobs that there are -/
def qOK (A : MS) : Prop := ∀ q, q ∈ mQ A → pR q < mR A ∧ pK q < mU A 16 (pR q) ∧ mJp A 0 q ≠ 8
theorem qOK_of {A : MS} (h : mJJ A) : qOK A := fun q hq => by
  obtain ⟨p1, p2, p3⟩ := h.2.2.1.2 q hq
  have h8 : mJp A 0 q ≠ 8 := by rw [show mJp A 0 q = 1 from p3]; decide
  exact ⟨p1, (mNk h.1.1 h.2.2.2.2.1 p1 h8).1, h8⟩
section
variable {e0 mo : Nat} {σ σ' : SG} {x : Nat} {L : LY} {A A' : MS} {r k j p w : Nat}
theorem rc_jst (h : ax_rc e0 σ x L A) (hI : mB A) (hr : r < mR A) (hk : k < mU A 16 r) (hj : j < 16) (hs : mJ A 0 r k j ≠ 8) (h7 : mJ A 0 r k j ≠ 7) {s : Nat} (hs6 : s ≤ 6) (hf : s ≤ 2 → mJ A 0 r k j ≤ 2) {v : Int32} (hv : v = nI s) : ax_rc e0 (putI σ 2 2 (gJ L r k j) v) x L (mUp A 40 r k j s) := by
  have e40 : mJ (mUp A 40 r k j s) 0 r k j = s := mUp_at A 40 r k j s
  refine rc_job h hI hr hk hj hs ((ax_F.refl _ _).putI fun _ => ⟨rfl, rfl⟩) (fun f r k j a => mUp_f A (by omega) r k j) rfl (fun f r' k' j' _ z => mUp_ne A z) (by rw [e40]; omega) ?_
  obtain ⟨⟨a1, a2, a3, a4⟩, a5, a6, a7, a8, a9⟩ := h.2.2.2.2.2.1 r k j hr hk hj hs
  unfold rcJ1
  rw [e40]
  refine ⟨⟨a1, a2, a3, ?_⟩, ?_, ?_, fun y => ?_, ?_, ?_⟩
  · rw [gI_putI, if_neg (fun z => absurd z.2.1 (by decide))]; exact a4
  · rw [gI_putI, if_pos ⟨rfl, rfl, rfl⟩, hv, show mSt s = s from if_neg (by omega)]
  · rw [gI_putI, if_neg (fun z => absurd z.2.1 (by decide))]; exact a6
  · rw [gI_putI, if_neg (fun z => absurd z.2.1 (by decide))]; exact a7 (hf y)
  · rw [gI_putI, if_neg (fun z => absurd z.2.1 (by decide))]; exact a8
  · rw [gI_putI, if_neg (fun z => absurd z.2.1 (by decide)), a9, if_neg h7, if_neg (by omega)]
theorem rc_jst7 (h : ax_rc e0 σ x L A) (hI : mB A) (hr : r < mR A) (hk : k < mU A 16 r) (hj : j < 16) (hs : mJ A 0 r k j ≠ 8) : ax_rc e0 (putI (putI σ 2 2 (gJ L r k j) 5) 2 6 (gJ L r k j) 1) x L (mUp A 40 r k j 7) := by
  have e40 : mJ (mUp A 40 r k j 7) 0 r k j = 7 := mUp_at A 40 r k j 7
  refine rc_job h hI hr hk hj hs (((ax_F.refl _ _).putI fun _ => ⟨rfl, rfl⟩).putI fun _ => ⟨rfl, rfl⟩) (fun f r k j a => mUp_f A (by omega) r k j) rfl (fun f r' k' j' _ z => mUp_ne A z) (by rw [e40]; decide) ?_
  obtain ⟨⟨a1, a2, a3, a4⟩, a5, a6, a7, a8, a9⟩ := h.2.2.2.2.2.1 r k j hr hk hj hs
  unfold rcJ1
  rw [e40]
  refine ⟨⟨a1, a2, a3, ?_⟩, ?_, ?_, fun y => absurd y (by decide), ?_, ?_⟩
  · rw [gI_putI, if_neg (fun z => absurd z.2.1 (by decide)), gI_putI, if_neg (fun z => absurd z.2.1 (by decide))]; exact a4
  · rw [gI_putI, if_neg (fun z => absurd z.2.1 (by decide)), gI_putI, if_pos ⟨rfl, rfl, rfl⟩]; rfl
  · rw [gI_putI, if_neg (fun z => absurd z.2.1 (by decide)), gI_putI, if_neg (fun z => absurd z.2.1 (by decide))]; exact a6
  · rw [gI_putI, if_neg (fun z => absurd z.2.1 (by decide)), gI_putI, if_neg (fun z => absurd z.2.1 (by decide))]; exact a8
  · rw [gI_putI, if_pos ⟨rfl, rfl, rfl⟩]; rfl
/-- a job joins the queue's list -/
theorem q_add (h : ax_rc e0 σ x L A) (hq : (mQ A).length ≤ 900) (hok : qOK A) (hp : pR p < mR A) (hk : pK p < mU A 16 (pR p)) (hs : mJp A 0 p ≠ 8) : ax_ok e0 mo 5 163 [aR (lF L 2), aR (gJp L p)] σ (fun w σ2 => w = aI 1 ∧ ∃ L', ax_rc e0 σ2 x L' (A.1, mQ A ++ [p], mE A) ∧ cl_fr σ L σ2 L' 0 0 ∧ L'.2.2 = L.2.2 ∧ ∀ i, i ≠ 8 → lF L' i = lF L i) := by
  have li := h.2.1.2.2.1
  obtain ⟨hb, hf, hx, hge⟩ := rc_hb h
  have hB := h.2.2.2.2.2.2.2.2
  have hc := hB.2.2.2.2.2.1 2 (by decide)
  have hj := h.2.2.2.2.2.1 _ _ _ hp hk (pl_of p).2.2 hs
  refine ax_okw (ct_163 li hc.2 (by omega) (fun i hi => ?_) (by rw [show gJp L p = gJ L (pR p) (pK p) (pJ p) from rfl, hj.1.2.1]; show (2 : Nat) < 9; decide) (hb _ _ _ _)) fun w σ2 hw => ?_
  · obtain ⟨q1, q2, q3⟩ := hok _ (mQ_at hi)
    refine ⟨hb _ _ _ _, ?_⟩
    have := (h.2.2.2.2.2.1 _ _ _ q1 q2 (pl_of _).2.2 q3).1.2.1
    show (sgK σ (gJ L (pR ((mQ A).getD i 0)) (pK ((mQ A).getD i 0)) (pJ ((mQ A).getD i 0)))).1 < 9
    rw [this]; show (2 : Nat) < 9; decide
  · obtain ⟨rfl, el', cap', g1, g2, g3⟩ := hw
    have hcap := ax_cap_le (lC L 2)
    have hpot := ax_cap_pot (lC L 2)
    have hcl := ax_cap_lt (lC L 2)
    refine ⟨rfl, lQu L el' cap', rc_qu h g2 ?_ ?_, ⟨g2.mono fun k i q _ z => ?_, ?_, ?_⟩, rfl, fun i hi => if_neg hi⟩
    · rw [List.length_append]
      refine li_f g1 fun i hi => ?_
      have hi : i < (mQ A).length + 1 := hi
      by_cases z : i = (mQ A).length
      · rw [if_pos z, z, getD_snoc]
      · rw [if_neg z, getD_app (by omega)]
    · rcases g3 with ⟨c1, c2, c3, c4⟩ | ⟨c1, c2, c3, c4, c5⟩
      · exact Or.inl ⟨c1, c2⟩
      · exact Or.inr ⟨by omega, by omega, by omega⟩
    · rcases z with z | z
      · rw [z.1]; exact ⟨by decide, by decide, by decide, by decide, by decide⟩
      · rw [z.1]; exact ⟨by decide, by decide, by decide, by decide, by decide⟩
    · show sgZ σ2 + (lC L 0 + lC L 1 + lC L 2 + lC L 3) ≤ sgZ σ + (lC L 0 + lC L 1 + cap' + lC L 3) + 0
      rcases g3 with ⟨c1, c2, c3, c4⟩ | ⟨c1, c2, c3, c4, c5⟩ <;> omega
    · show sgU σ2 + 4 * (lC L 0 + lC L 1 + lC L 2 + lC L 3) ≤ sgU σ + 4 * (lC L 0 + lC L 1 + cap' + lC L 3) + 0
      rcases g3 with ⟨c1, c2, c3, c4⟩ | ⟨c1, c2, c3, c4, c5⟩ <;> omega
theorem ct_75 (h : ax_rc e0 σ x L A) (hI : mB A) (hq : (mQ A).length ≤ 900) (hok : qOK A) (hp : pR p < mR A) (hk : pK p < mU A 16 (pR p)) (hs : mJp A 0 p ≤ 2) : ax_ok e0 mo 6 75 [aR x, aR (gJp L p)] σ (fun w σ2 => w = aU ∧ ∃ L', ax_rc e0 σ2 x L' ((mUpp A 40 p 1).1, mQ A ++ [p], mE A) ∧ cl_fr σ L σ2 L' 0 0 ∧ L'.2.2 = L.2.2 ∧ ∀ i, i ≠ 8 → lF L' i = lF L i) := by
  obtain ⟨f0, f1, f2, f3, f4, f5, f6, f7, f8⟩ := xf h
  have hj := h.2.2.2.2.2.1 _ _ _ hp hk (pl_of p).2.2 (show mJp A 0 p ≠ 8 by omega)
  have li := h.2.1.2.2.1
  have h1 := rc_jst h hI hp hk (pl_of p).2.2 (show mJp A 0 p ≠ 8 by omega) (show mJp A 0 p ≠ 7 by omega) (s := 1) (by decide) (fun _ => hs) (v := 1) rfl
  have e1 : ∀ q, mJp (mUpp A 40 p 1) 0 q ≠ 8 ∨ mJp (mUpp A 40 p 1) 0 q = mJp A 0 q := fun q => by
    by_cases z : q = p
    · left; rw [z, show mJp (mUpp A 40 p 1) 0 p = 1 from mUp_at A 40 (pR p) (pK p) (pJ p) 1]; decide
    · right
      exact mUp_ne A (fun y => z (by rw [← (pl_of q).1, ← (pl_of p).1, y.1, y.2.1, y.2.2]))
  refine sg_75_0 (d := 5) ⟨ax_kd hj.1.2.1, ax_kd f0, ?_⟩
  rw [f3]
  refine ⟨ax_kd li.1, ax_use (q_add (A := mUpp A 40 p 1) (p := p) h1 hq (fun q hqm => ?_) hp hk (by rw [show mJp (mUpp A 40 p 1) 0 p = 1 from mUp_at A 40 (pR p) (pK p) (pJ p) 1]; decide)) rfl fun w σ2 hw => ?_⟩
  · obtain ⟨q1, q2, q3⟩ := hok q hqm
    refine ⟨q1, q2, ?_⟩
    rcases e1 q with z | z
    · exact z
    · rw [z]; exact q3
  · obtain ⟨rfl, L', g1, g2, g3, g4⟩ := hw
    refine sg_75_13 (d := 5) ⟨rfl, L', g1, ?_, g3, g4⟩
    have := fr_trans (fr_I (fr_refl σ L) (k := 2) (i := 2) (q := gJp L p) (v := 1) (by decide)) g2
    exact this
/-- the first t queued jobs of a stage are stopped, in the class -/
def mStJ (A : MS) (r k t : Nat) : MS := (fun f r' k' j' => if f = 40 ∧ r' = r ∧ k' = k ∧ j' < t ∧ A.1 40 r k j' = 1 then 7 else A.1 f r' k' j', A.2)
theorem mStJ_0 (A : MS) (r k : Nat) : mStJ A r k 0 = A := by
  refine Prod.ext ?_ rfl
  funext f r' k' j'
  exact if_neg fun z => Nat.not_lt_zero _ z.2.2.2.1
theorem mStJ_f (A : MS) {r k t f : Nat} (h : f ≠ 40) (r' k' j' : Nat) : (mStJ A r k t).1 f r' k' j' = A.1 f r' k' j' := if_neg fun z => h z.1
theorem mStJ_no {A : MS} {r k t : Nat} (h : mJ A 0 r k t ≠ 1) : mStJ A r k (t + 1) = mStJ A r k t := by
  refine Prod.ext ?_ rfl
  funext f r' k' j'
  show (if _ then _ else _) = (if _ then _ else _)
  by_cases z : f = 40 ∧ r' = r ∧ k' = k ∧ j' < t ∧ A.1 40 r k j' = 1
  · rw [if_pos z, if_pos ⟨z.1, z.2.1, z.2.2.1, Nat.lt_succ_of_lt z.2.2.2.1, z.2.2.2.2⟩]
  · rw [if_neg z, if_neg]
    rintro ⟨z1, z2, z3, z4, z5⟩
    refine z ⟨z1, z2, z3, ?_, z5⟩
    rcases Nat.lt_succ_iff_lt_or_eq.mp z4 with w | w
    · exact w
    · exact absurd (by rw [w] at z5; exact z5) h
theorem mStJ_yes {A : MS} {r k t : Nat} (h : mJ A 0 r k t = 1) : mStJ A r k (t + 1) = mUp (mStJ A r k t) 40 r k t 7 := by
  refine Prod.ext ?_ rfl
  funext f r' k' j'
  show (if f = 40 ∧ r' = r ∧ k' = k ∧ j' < t + 1 ∧ A.1 40 r k j' = 1 then 7 else A.1 f r' k' j') = (if f = 40 ∧ r' = r ∧ k' = k ∧ j' = t then 7 else if f = 40 ∧ r' = r ∧ k' = k ∧ j' < t ∧ A.1 40 r k j' = 1 then 7 else A.1 f r' k' j')
  by_cases z : f = 40 ∧ r' = r ∧ k' = k ∧ j' = t
  · obtain ⟨rfl, rfl, rfl, rfl⟩ := z
    rw [if_pos ⟨rfl, rfl, rfl, Nat.lt_succ_self _, h⟩, if_pos ⟨rfl, rfl, rfl, rfl⟩]
  · rw [if_neg z]
    by_cases w : f = 40 ∧ r' = r ∧ k' = k ∧ j' < t ∧ A.1 40 r k j' = 1
    · rw [if_pos w, if_pos ⟨w.1, w.2.1, w.2.2.1, Nat.lt_succ_of_lt w.2.2.2.1, w.2.2.2.2⟩]
    · rw [if_neg w, if_neg]
      rintro ⟨z1, z2, z3, z4, z5⟩
      rcases Nat.lt_succ_iff_lt_or_eq.mp z4 with q | q
      · exact w ⟨z1, z2, z3, q, z5⟩
      · exact z ⟨z1, z2, z3, q⟩
theorem mB_stJ (h : mB A) {t : Nat} : mB (mStJ A r k t) := by
  refine mB_cong (fun f r' k' j' a b => mStJ_f A (by omega) r' k' j') (fun r' hr' => (h.2.2.2.2.1 r' hr').1) (fun r' k' j' hr' => ?_) h
  obtain ⟨h1, h2, h3⟩ := h.2.2.2.2.2 r' k' j' hr'
  refine ⟨?_, h2, h3⟩
  show (if _ then _ else _) ≤ 8
  split
  · decide
  · exact h1
theorem ct_16 (h : ax_rc e0 σ x L A) (hI : mB A) (hr : r < mR A) (hk : k < mU A 16 r) : ax_ok e0 mo 0 16 [aR (gP L 0 r k)] σ (fun w σ2 => w = aU ∧ ax_rc e0 σ2 x L (mStJ A r k 16) ∧ cl_fr σ L σ2 L 0 0) := by
  refine sg_16_0 ?_
  refine ax_down (N := 16) (fun t => ∀ (σ1 : SG) (v : AV), ax_rc e0 σ1 x L (mStJ A r k t) → cl_fr σ L σ1 L 0 0 → ax_wp e0 mo 0 16 (2, [aR (gP L 0 r k), aI (nI t), v], []) σ1 _) ?_ (fun t ht ih => ?_) 0 (Nat.zero_le _) σ aU (by rw [mStJ_0]; exact h) (fr_refl σ L)
  · intro σ1 v h1 f1
    obtain ⟨a1, a2, a3, a4, b1, b2, b3, c1⟩ := pt_at h1 hr hk
    refine sg_16_2 ⟨ax_kd a1, ?_⟩
    rw [a4, c1]
    exact ⟨⟨by decide, by decide⟩, fun q => absurd q (by decide), fun _ => ⟨rfl, h1, f1⟩⟩
  · intro σ1 v h1 f1
    have bT : mB (mStJ A r k t) := mB_stJ hI
    obtain ⟨a1, a2, a3, a4, b1, b2, b3, c1⟩ := pt_at h1 hr hk
    have ci : (nI t).toNatClampNeg = t := nI_clamp (by omega)
    have iin : ax_in σ1 24 (gP L 2 r k) (nI t) := ax_in_nI c1 ht (by decide)
    have es : mJ (mStJ A r k t) 0 r k t = mJ A 0 r k t := if_neg fun z => Nat.lt_irrefl _ z.2.2.2.1
    refine sg_16_2 ⟨ax_kd a1, ?_⟩
    rw [a4, c1, ci]
    refine ⟨⟨by decide, by decide⟩, fun _ => ⟨ax_kd a1, iin, ?_⟩, fun q => absurd (nI_lt (b := 16) ht (by decide)) q⟩
    rcases sl_at h1 bT hr hk ht with ⟨z, y⟩ | ⟨z, y, nz, kj, hj1⟩
    · rw [y]
      refine ⟨fun _ => ?_, fun q => absurd rfl q⟩
      rw [nI_1]
      exact ih σ1 _ (by rw [mStJ_no (by rw [← es, z]; decide)]; exact h1) f1
    · rw [y]
      have hm : mSt (mJ (mStJ A r k t) 0 r k t) < 8 := by show (if _ then _ else _) < 8; split <;> omega
      have st := st_012 _ z 1 (by decide)
      refine ⟨fun q => absurd q nz, fun _ => ⟨ax_kd kj, ?_⟩⟩
      rw [hj1.2.1, nI_1]
      refine pk_eq (mSt (mJ (mStJ A r k t) 0 r k t)) 1 (fun q => ⟨ax_kd kj, ⟨Or.inr rfl, ax_kd kj⟩, ?_⟩) (fun q => ?_)
      · have e1 : mJ A 0 r k t = 1 := by rw [← es]; exact st.mp q
        refine ih _ _ ?_ (fr_I (fr_I f1 (by decide)) (by decide))
        rw [mStJ_yes e1]
        exact rc_jst7 h1 bT hr hk ht (by omega)
      · exact ih σ1 _ (by rw [mStJ_no (by rw [← es]; exact fun w => q (st.mpr w))]; exact h1) f1
/-- the jobs of the run r's first x are cancelled, in the class -/
def mCaR (A : MS) (r x : Nat) : MS := (fun f r' k' j' => if f = 40 then (mCanT A r x).1 40 r' k' j' else A.1 f r' k' j', A.2)
theorem mCaR_f (A : MS) {r x f : Nat} (h : f ≠ 40) (r' k' j' : Nat) : (mCaR A r x).1 f r' k' j' = A.1 f r' k' j' := if_neg h
theorem mCaR_J (A : MS) (r x r' k' j' : Nat) : mJ (mCaR A r x) 0 r' k' j' = mJ (mCanT A r x) 0 r' k' j' := by
  show (if (40 : Nat) = 40 then (mCanT A r x).1 40 r' k' j' else A.1 40 r' k' j') = _
  exact if_pos rfl
theorem mCaR_0 (A : MS) (r : Nat) : mCaR A r 0 = A := by
  refine Prod.ext ?_ rfl
  funext f r' k' j'
  show (if f = 40 then (mCanT A r 0).1 40 r' k' j' else A.1 f r' k' j') = _
  rw [mCanT_0]
  split
  · rename_i z; rw [z]
  · rfl
theorem mCaR_no {A : MS} {r k j : Nat} (hk : k < 8) (hj : j < 16) (h : mCc A r k j = false) : mCaR A r (16 * k + j + 1) = mCaR A r (16 * k + j) := by
  unfold mCaR
  rw [mCanT_no hk hj h]
theorem mCaR_yes {A : MS} {r k j : Nat} (hk : k < 8) (hj : j < 16) (h : mCc A r k j = true) : mCaR A r (16 * k + j + 1) = mUp (mCaR A r (16 * k + j)) 40 r k j 5 := by
  refine Prod.ext ?_ rfl
  funext f r' k' j'
  by_cases z : f = 40
  · subst z
    show (if (40 : Nat) = 40 then (mCanT A r (16 * k + j + 1)).1 40 r' k' j' else A.1 40 r' k' j') = (mUp (mCaR A r (16 * k + j)) 40 r k j 5).1 40 r' k' j'
    rw [if_pos rfl, mCanT_yes1 hk hj h 40 r' k' j' (by decide)]
    by_cases q : r' = r ∧ k' = k ∧ j' = j
    · obtain ⟨rfl, rfl, rfl⟩ := q
      rw [mUp_at, mUp_at]
    · rw [mUp_ne _ q, mUp_ne _ q]
      exact (mCaR_J A r (16 * k + j) r' k' j').symm
  · rw [mUp_f _ z, mCaR_f A z, mCaR_f A z]
theorem mB_caR (h : mB A) {t : Nat} : mB (mCaR A r t) := by
  refine mB_cong (fun f r' k' j' a b => mCaR_f A (by omega) r' k' j') (fun r' hr' => (h.2.2.2.2.1 r' hr').1) (fun r' k' j' hr' => ?_) h
  obtain ⟨h1, h2, h3⟩ := (mB_canT (r := r) (x := t) h).2.2.2.2.2 r' k' j' hr'
  obtain ⟨g1, g2, g3⟩ := h.2.2.2.2.2 r' k' j' hr'
  exact ⟨by rw [mCaR_J]; exact h1, g2, g3⟩
theorem mCn_add (A : MS) (r x : Nat) : mCn A r (x + 1) = mCn A r x + (if mCc A r (x / 16) (x % 16) then 1 else 0) := rfl
/-- a stage of a run that is cancelled; c: how many before -/
theorem ct_17 (h : ax_rc e0 σ x L (mCaR A r (16 * k))) (hI : mB A) (hP : mPB A) (hr : r < mR A) (hk : k < mU A 16 r) : ax_ok e0 mo 1 17 [aR (gP L 0 r k)] σ (fun w σ2 => w = aI (nI (mCn A r (16 * k + 16) - mCn A r (16 * k))) ∧ ax_rc e0 σ2 x L (mCaR A r (16 * k + 16)) ∧ cl_fr σ L σ2 L 0 0) := by
  have h8 := mU16_le hI hr
  have hk8 : k < 8 := by omega
  have hm : mP A 9 r k < 2 := by have := (hP r k hr hk).2.2.2.1; omega
  have mono : ∀ t, mCn A r (16 * k) ≤ mCn A r (16 * k + t) := by
    intro t
    induction t with
    | zero => exact Nat.le_refl _
    | succ t ih => rw [show 16 * k + (t + 1) = 16 * k + t + 1 from rfl, mCn_add]; omega
  refine sg_17_0 (d := 0) ?_
  refine ax_down (N := 16) (fun t => ∀ (σ1 : SG) (v : AV), ax_rc e0 σ1 x L (mCaR A r (16 * k + t)) → cl_fr σ L σ1 L 0 0 → ax_wp e0 mo 1 17 (4, [aR (gP L 0 r k), aI (nI (mCn A r (16 * k + t) - mCn A r (16 * k))), aI (nI t), v], []) σ1 _) ?_ (fun t ht ih => ?_) 0 (Nat.zero_le _) σ aU h (fr_refl σ L) |> fun z => by
      rw [show mCn A r (16 * k + 0) - mCn A r (16 * k) = 0 from Nat.sub_self _] at z
      exact z
  · intro σ1 v h1 f1
    obtain ⟨a1, a2, a3, a4, b1, b2, b3, c1⟩ := pt_at h1 hr hk
    refine sg_17_4 (d := 0) ⟨ax_kd a1, ?_⟩
    rw [a4, c1]
    exact ⟨⟨by decide, by decide⟩, fun q => absurd q (by decide), fun _ => ⟨rfl, h1, f1⟩⟩
  · intro σ1 v h1 f1
    have bT : mB (mCaR A r (16 * k + t)) := mB_caR hI
    obtain ⟨a1, a2, a3, a4, b1, b2, b3, c1⟩ := pt_at h1 hr hk
    have ci : (nI t).toNatClampNeg = t := nI_clamp (by omega)
    have iin : ax_in σ1 24 (gP L 2 r k) (nI t) := ax_in_nI c1 ht (by decide)
    have es : mJ (mCaR A r (16 * k + t)) 0 r k t = mJ A 0 r k t := by
      rw [mCaR_J, mCanT_J A hk8 ht, mCx_pl hk8 ht, not_true_b (b := Nat.blt (16 * k + t) (16 * k + t)) (fun w => Nat.lt_irrefl _ (Nat.blt_eq.mp w))]
      simp
    have ec : mCc A r k t = ccB (mJ A 0 r k t) (mP A 9 r k) := rfl
    have ed : (16 * k + t) / 16 = k ∧ (16 * k + t) % 16 = t := by omega
    have en := mCn_add A r (16 * k + t)
    rw [ed.1, ed.2] at en
    have mt := mono t
    have skip : mCc A r k t = false → ∀ v : AV, ax_wp e0 mo 1 17 (4, [aR (gP L 0 r k), aI (nI (mCn A r (16 * k + t) - mCn A r (16 * k))), aI (nI t + 1), v], []) σ1 (ax_ct (fun w σ2 => w = aI (nI (mCn A r (16 * k + 16) - mCn A r (16 * k))) ∧ ax_rc e0 σ2 x L (mCaR A r (16 * k + 16)) ∧ cl_fr σ L σ2 L 0 0) (fun _ _ => False)) := fun e v => by
      rw [nI_1]
      have := ih σ1 v (by rw [show 16 * k + (t + 1) = 16 * k + t + 1 from rfl, mCaR_no hk8 ht e]; exact h1) f1
      rw [show 16 * k + (t + 1) = 16 * k + t + 1 from rfl, en, e, if_neg (by decide), Nat.add_zero] at this
      exact this
    refine sg_17_4 (d := 0) ⟨ax_kd a1, ?_⟩
    rw [a4, c1, ci]
    refine ⟨⟨by decide, by decide⟩, fun _ => ⟨ax_kd a1, iin, ?_⟩, fun q => absurd (nI_lt (b := 16) ht (by decide)) q⟩
    rcases sl_at h1 bT hr hk ht with ⟨z, y⟩ | ⟨z, y, nz, kj, hj1⟩
    · rw [y]
      exact ⟨fun _ => skip (by rw [ec, ← es, z]; rfl) _, fun q => absurd rfl q⟩
    · rw [y, a3, b3 9 (by decide) (by decide), show mP (mCaR A r (16 * k + t)) 9 r k = mP A 9 r k from mCaR_f A (by decide) r k 0]
      refine ⟨fun q => absurd q nz, fun _ => ⟨ax_kd a1, ax_kd b1, ax_kd kj, ax_use0 (ct_9 hj1 z hm) rfl ?_⟩⟩
      rw [es, ← ec]
      refine sg_17_35 (d := 0) ⟨fun q => skip (bI0 q) _, fun q => ⟨ax_kd kj, ?_⟩⟩
      have e := bI1 q
      have hle2 : mJ A 0 r k t ≤ 2 := by
        rw [ec] at e
        unfold ccB at e
        simp only [Bool.or_eq_true, Bool.and_eq_true, Nat.beq_eq] at e
        omega
      have := ih (putI σ1 2 2 (gJ L r k t) 5) (aR (gJ L r k t)) (by
        rw [show 16 * k + (t + 1) = 16 * k + t + 1 from rfl, mCaR_yes hk8 ht e]
        exact rc_jst h1 bT hr hk ht (by omega) (by omega) (s := 5) (by decide) (fun y => by omega) rfl) (fr_I f1 (by decide))
      rw [show 16 * k + (t + 1) = 16 * k + t + 1 from rfl, en, e, if_pos rfl] at this
      rw [nI_1, nI_1, show mCn A r (16 * k + t) - mCn A r (16 * k) + 1 = mCn A r (16 * k + t) + 1 - mCn A r (16 * k) by omega]
      exact this
theorem mCn_mono16 (A : MS) (r x : Nat) : mCn A r x ≤ mCn A r (x + 16) := by
  have : ∀ t, mCn A r x ≤ mCn A r (x + t) := by
    intro t
    induction t with
    | zero => exact Nat.le_refl _
    | succ t ih => rw [show x + (t + 1) = x + t + 1 from rfl, mCn_add]; omega
  exact this 16
theorem ct_26 (h : ax_rc e0 σ x L A) (hI : mB A) (hP : mPB A) (hr : r < mR A) : ax_ok e0 mo 3 26 [aR (gU L 0 r)] σ (fun w σ2 => w = aI (nI (mCn A r (16 * mU A 16 r))) ∧ ax_rc e0 σ2 x L (mCaR A r (16 * mU A 16 r)) ∧ cl_fr σ L σ2 L 0 0) := by
  have h8 := mU16_le hI hr
  refine sg_26_0 (d := 2) ?_
  refine ax_down (N := mU A 16 r) (fun s => ∀ (σ1 : SG), ax_rc e0 σ1 x L (mCaR A r (16 * s)) → cl_fr σ L σ1 L 0 0 → ax_wp e0 mo 3 26 (4, [aR (gU L 0 r), aI (nI (mCn A r (16 * s))), aI (nI s)], []) σ1 _) ?_ (fun s hs ih => ?_) 0 (Nat.zero_le _) σ (by rw [mCaR_0]; exact h) (fr_refl σ L)
  · intro σ1 h1 f1
    obtain ⟨a1, a2, a3, a4, a5, a6, a7, a8⟩ := ru_at h1 hr
    refine sg_26_4 (d := 2) ⟨ax_kd a1, ?_⟩
    rw [a5]
    refine ⟨ax_kd a8, ax_use0 (ct_157 a7) rfl ?_⟩
    exact sg_26_12 (d := 2) ⟨fun q => absurd q (nI_nlt (Nat.le_refl _) (show mU A 16 r < 2 ^ 31 by omega)), fun _ => ⟨rfl, h1, f1⟩⟩
  · intro σ1 h1 f1
    obtain ⟨a1, a2, a3, a4, a5, a6, a7, a8⟩ := ru_at h1 hr
    have a7 : ax_li σ1 (gU L 2 r) (gU L 3 r) 10 (mU A 16 r) (gP L 0 r) := a7
    have pk := (pt_at h1 hr (show s < mU (mCaR A r (16 * s)) 16 r from hs)).1
    refine sg_26_4 (d := 2) ⟨ax_kd a1, ?_⟩
    rw [a5]
    refine ⟨ax_kd a8, ax_use0 (ct_157 a7) rfl ?_⟩
    refine sg_26_12 (d := 2) ⟨fun _ => ⟨ax_kd a1, ?_⟩, fun q => absurd (nI_lt hs (by omega)) q⟩
    rw [a5]
    refine ⟨ax_kd a8, ax_use0 (ct_160 a7 hs) rfl ?_⟩
    refine sg_26_24 (d := 2) ⟨Or.inr (ax_kd pk), ax_kd pk, ax_use (ct_17 h1 hI hP hr hs) rfl fun w σ2 hw => ?_⟩
    obtain ⟨rfl, h2, f2⟩ := hw
    refine sg_26_30 (d := 2) ?_
    have mono : mCn A r (16 * s) ≤ mCn A r (16 * s + 16) := mCn_mono16 _ _ _
    rw [nI_1, nI_add, show mCn A r (16 * s) + (mCn A r (16 * s + 16) - mCn A r (16 * s)) = mCn A r (16 * (s + 1)) by rw [show 16 * (s + 1) = 16 * s + 16 from rfl]; omega]
    exact ih σ2 h2 (fr_trans f1 f2)
end
end AXRF
