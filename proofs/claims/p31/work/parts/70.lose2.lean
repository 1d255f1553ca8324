/-! The class: lose. -/
section AXRK
section
variable {e0 mo : Nat} {σ σ' σ1 : SG} {x : Nat} {L : LY} {A A' : MS} {r k j p w : Nat}
theorem los0_st (A : MS) (w p : Nat) : mJp (mLos0 A w p) 0 p ≠ 0 ∧ mJp (mLos0 A w p) 0 p ≠ 8 := by
  unfold mLos0
  cases (Nat.beq (mU A 11 (pR p)) 7 && !(mStop A (pR p) (pK p))) with
  | true =>
    have e : mJp ((mUpp (mFre A w) 40 p 1).1, mQ A ++ [p], mE A) 0 p = 1 := mUp_at _ 40 (pR p) (pK p) (pJ p) 1
    show mJp ((mUpp (mFre A w) 40 p 1).1, mQ A ++ [p], mE A) 0 p ≠ 0 ∧ mJp ((mUpp (mFre A w) 40 p 1).1, mQ A ++ [p], mE A) 0 p ≠ 8
    rw [e]; decide
  | false =>
    have e : ∀ s, mJp (mUpp (mFre A w) 40 p s) 0 p = s := fun s => mUp_at _ 40 (pR p) (pK p) (pJ p) s
    show mJp (mUpp (mFre A w) 40 p (bif Nat.beq (mU A 11 (pR p)) 7 then 7 else 5)) 0 p ≠ 0 ∧ mJp (mUpp (mFre A w) 40 p (bif Nat.beq (mU A 11 (pR p)) 7 then 7 else 5)) 0 p ≠ 8
    rw [e]
    cases Nat.beq (mU A 11 (pR p)) 7 <;> decide
theorem mU_los0 (A : MS) (w p : Nat) : mR (mLos0 A w p) = mR A ∧ mU (mLos0 A w p) 11 (pR p) = mU A 11 (pR p) ∧ mU (mLos0 A w p) 16 (pR p) = mU A 16 (pR p) := by
  unfold mLos0
  cases (Nat.beq (mU A 11 (pR p)) 7 && !(mStop A (pR p) (pK p)))
  · exact ⟨rfl, rfl, rfl⟩
  · exact ⟨rfl, rfl, rfl⟩
/-- what follows a job's end: the answer is the job's state -/
theorem end_an {B : MS} {X : List Nat} {σ2 : SG} {La : LY} (hB : mJJ B) (p1 : pR p < mR B) (hG : mG B (pR p)) (hk : pK p < mU B 16 (pR p)) (h0 : mJp B 0 p ≠ 0) (h8 : mJp B 0 p ≠ 8) (h2 : ax_rc e0 σ2 x La (mFol B (pR p))) {ca cu : Nat} (f2 : cl_fr σ L σ2 La ca cu) (hca : ca ≤ 390 ∧ cu ≤ 6000) (eL : La.2.2.1 = L.2.2.1) : sgK σ2 (gJp L p) = (2, 7) ∧ cl_po e0 σ x L X ((0, nI (mSt (mJp B 0 p))), mFol B (pR p)) (.inl (aI (sgI σ2 2 2 (gJp L p)))) σ2 := by
  have e : mJp (mFol B (pR p)) 0 p = mJp B 0 p := fol_nz h0
  have hR : mR (mFol B (pR p)) = mR B := mFol_lo 10 0 0 0 (by decide) (by decide)
  have hU : mU (mFol B (pR p)) 16 (pR p) = mU B 16 (pR p) := mFol_lo 16 _ 0 0 (by decide) (by decide)
  have j1 := h2.2.2.2.2.2.1 (pR p) (pK p) (pJ p) (by rw [hR]; exact p1) (by rw [hU]; exact hk) (pl_of p).2.2 (show mJp (mFol B (pR p)) 0 p ≠ 8 by rw [e]; exact h8)
  have eg : gJ La (pR p) (pK p) (pJ p) = gJp L p := by
    show La.2.2.1 20 _ _ _ = L.2.2.1 20 _ _ _
    rw [eL]
  have k1 := j1.1.2.1
  have k2 := j1.2.1
  rw [eg] at k1 k2
  refine ⟨k1, rfl, ?_, La, h2, fr_le f2 hca.1 hca.2⟩
  rw [k2, show mJ (mFol B (pR p)) 0 (pR p) (pK p) (pJ p) = mJp B 0 p from e]
theorem ct_55 (h : ax_rc e0 σ x L A) (hJJ : mJJ A) (v : Int32) : ax_wp e0 mo 10 55 (0, ax_entry 55 [aR x, aI v], []) σ (cl_po e0 σ x L [0, 2] (oLose A v)) := by
  obtain ⟨f0, f1, f2, f3, f4, f5, f6, f7, f8⟩ := xf h
  obtain ⟨⟨hI, hP, hN⟩, hGo, hQ, hW, hJI, hE, h60⟩ := id hJJ
  refine sg_55_0 (d := 9) ⟨ax_kd f0, ax_useX (ct_66 h hJJ v) rfl (fun u σ2 hu => ?_) (fun E σ2 hu => ?_)⟩
  · obtain ⟨hy, rfl, rfl⟩ := hu
    obtain ⟨w, p, rfl, hw4, cw, hw, hwp, p1, p2, p3, p4⟩ := hasW_yes hW hI hy
    have hk := (mNk hI hJI p1 (by rw [p3]; decide)).1
    have hj := (pl_of p).2.2
    have hql := mQ_len hGo hQ
    have hok := qOK_of hJJ
    obtain ⟨i1, -, v1⟩ := wk_at h hw4
    obtain ⟨a1, a2, a3, a4, b1, b2, b3, c1⟩ := pt_at h (r := pR p) (k := pK p) p1 hk
    obtain ⟨u1, u2, u3, u4, u5, u6, u7, u8⟩ := ru_at h (r := pR p) p1
    have j1 := h.2.2.2.2.2.1 (pR p) (pK p) (pJ p) p1 hk hj (by rw [show mJ A 0 (pR p) (pK p) (pJ p) = 2 from p3]; decide)
    have kj : sgK σ2 (gJp L p) = (2, 7) := j1.1.2.1
    have kp : sgR σ2 2 0 (gJp L p) = gP L 0 (pR p) (pK p) := j1.1.2.2.1
    have hu : mU A 11 (pR p) < 16 := by have := (hI.2.2.2.2.1 _ p1).1; omega
    have hB := wk_free (w := w) h
    have IB : mB (mFre A w) := mB_fre hI
    have PB : mPB (mFre A w) := hP
    have s2 : mJ (mFre A w) 0 (pR p) (pK p) (pJ p) = 2 := p3
    have sB : mStopP (mFre A w) (pR p) (pK p) = mStop A (pR p) (pK p) := by
      have := stopP_eq hN p1 p2 hk
      exact this
    have eO : oLose A (nI w) = ((0, nI (mSt (mJp (mLos0 A w p) 0 p))), mFol (mLos0 A w p) (pR p)) := by
      unfold oLose
      unfold hasW at hy
      rw [Bool.and_eq_true] at hy
      rw [hy.1, cw, hwp, nb_ne (show mW A w ≠ 0 by omega)]
      rfl
    have jl := mJJ_los0 hJJ hw
    obtain ⟨r1, r2, r3⟩ := mU_los0 A w p
    obtain ⟨n1, n2⟩ := los0_st A w p
    have pl1 : pR p < mR (mLos0 A w p) := by rw [r1]; exact p1
    have pl2 : mG (mLos0 A w p) (pR p) := by unfold mG; rw [r2]; exact p2
    have pl3 : pK p < mU (mLos0 A w p) 16 (pR p) := by rw [r3]; exact hk
    -- after all: what follows
    have last : ∀ (σ3 : SG) (La : LY), ax_rc e0 σ3 x La (mLos0 A w p) → cl_fr σ2 L σ3 La 0 0 → La.2.2 = L.2.2 → ∃ K : AV → SG → Prop, (∀ v σ4, K v σ4 → ax_wp e0 mo 10 55 (76, [aR x, aI (nI w), aR (gJp L p), aR (gU L 0 (pR p))], ax_push v []) σ4 (cl_po e0 σ2 x L [0, 2] (oLose A (nI w)))) ∧ ax_ok e0 mo 9 77 [aR x, aR (gU L 0 (pR p))] σ3 K := by
      intro σ3 La h3 f3 eL
      refine ⟨fun v σ4 => v = aU ∧ ∃ L', ax_rc e0 σ4 x L' (mFol (mLos0 A w p) (pR p)) ∧ cl_fr σ3 La σ4 L' 0 0 ∧ L'.2.2 = La.2.2, fun v σ4 hv => ?_, ?_⟩
      · obtain ⟨rfl, L', h4, f4, e4⟩ := hv
        obtain ⟨e1, e2⟩ := end_an (X := [0, 2]) jl pl1 pl2 pl3 n1 n2 h4 (fr_trans f3 f4) (by decide) (congrArg Prod.fst (e4.trans eL))
        rw [eO]
        exact sg_55_76 (d := 9) ⟨ax_kd e1, e2⟩
      · have c := ct_77 (mo := mo) h3 jl pl1 pl2
        have eg : gU La 0 (pR p) = gU L 0 (pR p) := by show La.2.2.1 1 _ _ _ = L.2.2.1 1 _ _ _; rw [eL]
        rw [eg] at c
        exact c
    have fB : cl_fr σ2 L (putR σ2 24 w (lF L 3) 0) L 0 0 := fr_R (fr_refl σ2 L) (by decide)
    rw [cw, hwp]
    refine sg_55_5 (d := 9) ⟨ax_kd kj, ?_⟩
    rw [kp, f4, cw, a2, u6]
    refine ⟨ax_kd a1, ax_kd f0, ⟨Or.inl rfl, i1⟩, ax_kd u1, pk_eq (mU A 11 (pR p)) 7 (fun q7 => ⟨ax_kd kj, ax_kd a1, ax_use0 (ct_15 hB IB PB p1 hk) rfl ?_⟩) (fun q7 => ⟨ax_kd kj, ax_kd u1, pk_eq (mU A 11 (pR p)) 7 (fun z => absurd z q7) (fun _ => ⟨⟨Or.inl rfl, ax_kd kj⟩, ax_kd f0, ?_⟩)⟩)⟩
    · rw [sB]
      refine sg_55_37 (d := 9) ⟨fun q => ⟨ax_kd (xf hB).1, ?_⟩, fun q => ⟨ax_kd kj, ax_kd u1, ?_⟩⟩
      · refine ax_use (ct_75 (p := p) hB IB (show (mQ A).length ≤ 900 by omega) hok p1 hk (show mJp A 0 p ≤ 2 by rw [p3]; decide)) rfl fun v σ3 hv => ?_
        obtain ⟨rfl, L', g1, g2, g3, -⟩ := hv
        have eF : mLos0 A w p = ((mUpp (mFre A w) 40 p 1).1, mQ A ++ [p], mE A) := by
          unfold mLos0
          rw [q7, bI0 q]
          rfl
        obtain ⟨K, k1, k2⟩ := last σ3 L' (by rw [eF]; exact g1) (fr_trans fB g2) g3
        exact sg_55_45 (d := 9) ⟨ax_kd (xf g1).1, ax_use k2 rfl k1⟩
      · have e11 : sgI (putR σ2 24 w (lF L 3) 0) 4 4 (gU L 0 (pR p)) = nI (mU A 11 (pR p)) := u6
        rw [e11, q7]
        refine ⟨fun _ => ⟨⟨Or.inr rfl, ax_kd kj⟩, ax_kd f0, ?_⟩, fun z => absurd rfl z⟩
        have g1 := rc_jst7 hB IB (r := pR p) (k := pK p) (j := pJ p) p1 hk hj (by rw [s2]; decide)
        have eF : mLos0 A w p = mUpp (mFre A w) 40 p 7 := by
          unfold mLos0
          rw [q7, bI1 q]
          rfl
        obtain ⟨K, k1, k2⟩ := last _ L (by rw [eF]; exact g1) (fr_I (fr_I fB (by decide)) (by decide)) rfl
        exact ax_use k2 rfl k1
    · have g1 := rc_jst5 hB IB (r := pR p) (k := pK p) (j := pJ p) p1 hk hj (by rw [s2]; decide)
      have eF : mLos0 A w p = mUpp (mFre A w) 40 p 5 := by
        unfold mLos0
        rw [nb_ne q7]
        rfl
      obtain ⟨K, k1, k2⟩ := last _ L (by rw [eF]; exact g1) (fr_I (fr_I fB (by decide)) (by decide)) rfl
      exact ax_use k2 rfl k1
  · obtain ⟨hn, rfl, rfl⟩ := hu
    unfold oLose
    unfold hasW at hn
    cases c : inB v 4 with
    | false => exact ⟨Nat.le_refl 1, rfl, rfl⟩
    | true =>
      rw [c] at hn
      have z : Nat.beq (mW A v.toNatClampNeg) 0 = true := by
        cases y : Nat.beq (mW A v.toNatClampNeg) 0 with
        | true => rfl
        | false => rw [y] at hn; cases hn
      rw [z]
      exact ⟨Nat.le_succ 1, rfl, rfl⟩
end
end AXRK
