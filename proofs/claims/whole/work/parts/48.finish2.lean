/-! The reference's finish and lose. -/
section AXMV
section
variable {e0 mo : Nat} {σ : SG} {m : Nat} {M : Nat → Nat} {A : MS} {r k j p w : Nat}
theorem fin0_st (A : MS) (w p : Nat) (b : Bool) : mJp (mFin0 A w p b) 0 p = 3 ∨ mJp (mFin0 A w p b) 0 p = 1 ∨ mJp (mFin0 A w p b) 0 p = 4 := by
  unfold mFin0
  cases b with
  | true =>
    left
    show (mSto (mUpp (mFre A w) 40 p 3) (pR p) (pK p)).1 40 (pR p) (pK p) (pJ p) = 3
    rw [mSto_1]
    exact mUp_at _ 40 (pR p) (pK p) (pJ p) 3
  | false =>
    right
    cases (Nat.beq (mU A 11 (pR p)) 7 && !(mStop A (pR p) (pK p)) && Nat.blt (mJp A 2 p) (mS A 5 (pK p))) with
    | true => exact Or.inl (mUp_at _ 40 (pR p) (pK p) (pJ p) 1)
    | false =>
      right
      show mJp (mStp (mUpp (mFre A w) 40 p 4) (pR p) (pK p)) 0 p = 4
      have e4 : mJp (mUpp (mFre A w) 40 p 4) 0 p = 4 := mUp_at _ 40 (pR p) (pK p) (pJ p) 4
      unfold mStp
      cases mStop (mUpp (mFre A w) 40 p 4) (pR p) (pK p) with
      | false => exact e4
      | true =>
        refine (mStpT_p _ _ _ _ p).trans ((if_neg fun z => ?_).trans e4)
        unfold mStx at z
        rw [e4, show Nat.beq 4 1 = false from rfl, Bool.and_false] at z
        cases z
theorem hasW_yes (hW : mWI A) (hI : mB A) {x : Int32} (h : hasW A x = true) : ∃ w p, x = nI w ∧ w < 4 ∧ x.toNatClampNeg = w ∧ mW A w = p + 1 ∧ mW A w - 1 = p ∧ pR p < mR A ∧ mG A (pR p) ∧ mJp A 0 p = 2 ∧ p < 10240 := by
  unfold hasW at h
  rw [Bool.and_eq_true] at h
  obtain ⟨w, hw4, rfl⟩ := inB_yes h.1 (by decide)
  have c1 : (nI w).toNatClampNeg = w := nI_clamp (by omega)
  have hws := mW_small hW hI w
  have h2 := h.2
  rw [c1] at h2
  have hw0 : mW A w ≠ 0 := fun z => by rw [z] at h2; cases h2
  obtain ⟨g1, g2, g3⟩ := hW.2.2 w (mW A w - 1) (by omega)
  exact ⟨w, mW A w - 1, rfl, hw4, c1, by omega, rfl, g1, g2, g3, by omega⟩
theorem mNk (hI : mB A) (hJ : mJI A) (hp : pR p < mR A) (h : mJp A 0 p ≠ 8) : pK p < mU A 16 (pR p) ∧ pK p < mN A := by
  have hk : pK p < mU A 16 (pR p) := by
    rcases Nat.lt_or_ge (pK p) (mU A 16 (pR p)) with q | q
    · exact q
    · exact absurd (hJ.1 _ _ (pJ p) hp q) h
  exact ⟨hk, Nat.lt_of_lt_of_le hk (hI.2.2.2.2.1 _ hp).2.2.2.2.2.2⟩
theorem mR_fin0 (A : MS) (w p : Nat) (b : Bool) : mR (mFin0 A w p b) = mR A ∧ mU (mFin0 A w p b) 11 (pR p) = mU A 11 (pR p) := by
  unfold mFin0
  cases b with
  | true =>
    show (mSto (mUpp (mFre A w) 40 p 3) (pR p) (pK p)).1 10 0 0 0 = _ ∧ (mSto (mUpp (mFre A w) 40 p 3) (pR p) (pK p)).1 11 (pR p) 0 0 = _
    rw [mSto_1]
    exact ⟨rfl, rfl⟩
  | false =>
    cases (Nat.beq (mU A 11 (pR p)) 7 && !(mStop A (pR p) (pK p)) && Nat.blt (mJp A 2 p) (mS A 5 (pK p))) with
    | true => exact ⟨rfl, rfl⟩
    | false =>
      show mR (mStp (mUpp (mFre A w) 40 p 4) (pR p) (pK p)) = _ ∧ mU (mStp (mUpp (mFre A w) 40 p 4) (pR p) (pK p)) 11 (pR p) = _
      unfold mStp
      cases mStop (mUpp (mFre A w) 40 p 4) (pR p) (pK p)
      · exact ⟨rfl, rfl⟩
      · exact ⟨rfl, rfl⟩
theorem mTn_fin0 {n : Nat} (h : mTn A n) (w p : Nat) (b : Bool) : mTn (mFin0 A w p b) n := by
  unfold mFin0
  cases b with
  | true =>
    intro r k j
    show (mSto (mUpp (mFre A w) 40 p 3) (pR p) (pK p)).1 41 r k j ≤ n
    rw [mSto_1]
    exact h r k j
  | false =>
    cases (Nat.beq (mU A 11 (pR p)) 7 && !(mStop A (pR p) (pK p)) && Nat.blt (mJp A 2 p) (mS A 5 (pK p))) with
    | true => exact h
    | false => exact mT_stp h
theorem mTn_los0 {n : Nat} (h : mTn A n) (w p : Nat) : mTn (mLos0 A w p) n := by
  unfold mLos0
  cases (Nat.beq (mU A 11 (pR p)) 7 && !(mStop A (pR p) (pK p)))
  · exact h
  · exact h
theorem mR_los0 (A : MS) (w p : Nat) : mR (mLos0 A w p) = mR A ∧ mU (mLos0 A w p) 11 (pR p) = mU A 11 (pR p) := by
  unfold mLos0
  cases (Nat.beq (mU A 11 (pR p)) 7 && !(mStop A (pR p) (pK p)))
  · exact ⟨rfl, rfl⟩
  · exact ⟨rfl, rfl⟩
theorem ct_137 (h : ax_rm σ m M A) (hJJ : mJJ A) {n : Nat} (hT : mTn A n) (hn : n < 1000) (x : Int32) (b : Bool) : ax_ok e0 mo 6 137 [aR m, aI x, aI (bI b)] σ (rf_an m M σ (oFinish A x b)) := by
  obtain ⟨⟨hI, hP, hN⟩, hGo, hQ, hW, hJ, hE, h60⟩ := id hJJ
  have hR := hI.1.2
  have hNN := hI.1.1
  have hql := mQ_len hGo hQ
  unfold oFinish
  refine sg_137_0 (d := 5) ⟨ax_kd h.1.1, ?_⟩
  refine ax_use (ct_136 h (fun w => mW_small hW hI w) x) rfl fun w σ2 hw => ?_
  obtain ⟨rfl, h2, f2, t2⟩ := hw
  refine sg_137_5 (d := 5) ⟨fun q => ?_, fun q => ⟨ax_kd h2.1.1, ?_⟩⟩
  · have e := bI0 q
    unfold hasW at e
    cases e1 : inB x 4 with
    | false =>
      rw [e1] at t2
      exact ⟨fun z => (Nat.one_ne_zero z).elim, t2, h2, f2⟩
    | true =>
      rw [e1] at t2 e
      have e3 : Nat.beq (mW A x.toNatClampNeg) 0 = true := not_false_b (fun y => by rw [y] at e; cases e)
      rw [e3] at t2 ⊢
      exact ⟨fun z => (Nat.succ_ne_zero 1 z).elim, t2, h2, f2⟩
  · obtain ⟨w, p, rfl, hw4, c1, hwp, hwp1, p1, p2, p3, hp0⟩ := hasW_yes hW hI (bI1 q)
    have e1 : inB (nI w) 4 = true := inB_nI hw4 (by decide)
    have e2 : Nat.beq (mW A w) 0 = false := nb_ne (by omega)
    rw [e1, c1, e2] at t2
    rw [e1, c1, e2, hwp1]
    obtain ⟨k1, k2⟩ := mNk hI hJ p1 (by rw [p3]; decide)
    have hk8 : pK p < 8 := (pl_of p).2.1
    obtain ⟨u1, u2, u3, u4⟩ := rm_w h2 hw4
    rw [nI_p1 (show mW A w ≠ 0 by omega), hwp1] at u4
    have a20 : ax_mr 20 := mr_of (by decide) (by decide) (by decide) (by decide)
    have a17 : ax_mr 17 := mr_of (by decide) (by decide) (by decide) (by decide)
    have h3 := rm_w1 h2 hw4 (v := -1) (n := 0) rfl
    have f3 := (ax_mf.refl m M σ2).row a20 (-1) (Or.inl rfl) (i := w)
    have hI3 : mB (mFre A w) := mB_w hI _ _ _ _
    have hT3 : mT (mFre A w) := mTn_T (n := n) hT (by omega)
    obtain ⟨v1, v2, v3, v4⟩ := rm_jobp (p := p) h3 hI3 p1
    obtain ⟨x1, x2, x3⟩ := rm_run h3 hI3 (f := 11) (by decide) (show pR p < 80 by omega)
    have x4 := (h3.2.2.2.1 (pR p) p1).1
    obtain ⟨y1, y2⟩ := mC_lt (k := pK p) (j := pJ p) hI3 hT3 p1
    have y3 := (mC_parts (k := pK p) (j := pJ p) hI3 hT3 p1).2.2
    have er : nI p / 128 = nI (pR p) := by rw [show (128 : Int32) = nI 128 from rfl, pk_div (by omega) (by decide) (by decide)]
    have ek : (nI p - nI p / 128 * 128) / 16 = nI (pK p) := by rw [show (128 : Int32) = nI 128 from rfl, pk_rem (by omega) (by decide) (by decide), show (16 : Int32) = nI 16 from rfl, pk_div (by omega) (by decide) (by decide)]
    have ef : nI (mC (mFre A w) (pR p) (pK p) (pJ p)) / 128 - nI (mC (mFre A w) (pR p) (pK p) (pJ p)) / 128 / 4 * 4 = nI (mJp A 2 p) := by
      rw [show (128 : Int32) = nI 128 from rfl, pk_div (by omega) (by decide) (by decide), show (4 : Int32) = nI 4 from rfl, pk_rem (by omega) (by decide) (by decide), y3]
      rfl
    have v1' : sgR σ2 7 17 m = M 17 := v1
    have x1' : sgR σ2 7 11 m = M 11 := x1
    have v2' : ax_in σ2 20 (M 17) (nI p) := v2
    have x2' : ax_in σ2 20 (M 11) (nI (pR p)) := x2
    rw [u1, u4, ek, er, v1', v3, v4, ef, x1', x3, x4]
    have hst : mU A 11 (pR p) < 11 := by have := (hI.2.2.2.2.1 _ p1).1; omega
    have ex : (mU (mFre A w) 11 (pR p)) = mU A 11 (pR p) := rfl
    rw [ex]
    -- the end: its state, what follows
    have last : ∀ (B : MS) (σ4 : SG), ax_rm σ4 m M B → mJJ B → mTn B n → mR B = mR A → mU B 11 (pR p) = mU A 11 (pR p) → ax_mf m M σ2 σ4 → (mJp B 0 p = 3 ∨ mJp B 0 p = 1 ∨ mJp B 0 p = 4) → ax_wp e0 mo 6 137 (142, [aR m, aI (nI w), aI (bI b), aI (nI p), aI (nI (pR p)), aI (nI (pK p)), aI (nI (mJp A 2 p)), aU], []) σ4 (ax_ct (rf_an m M σ ((0, nI (mSt (mJp B 0 p))), mFol B (pR p))) (fun _ _ => False)) := by
      intro B σ4 h4 hJ4 hT4 eR e11 f4 hs
      have hT4 := mTn_T hT4 (by omega)
      refine sg_137_142 (d := 5) ⟨ax_kd h4.1.1, ?_⟩
      refine ax_use0 (as_104 h4 hJ4.1.1 hT4 (by rw [eR]; exact p1)) rfl ?_
      refine sg_137_147 (d := 5) ⟨ax_kd h4.1.1, ?_⟩
      refine ax_use (ct_117 h4 hJ4 hT4 (by rw [eR]; exact p1) (by unfold mG at p2 ⊢; rw [e11]; exact p2)) rfl fun v σ5 hv => ?_
      obtain ⟨rfl, h5, f5⟩ := hv
      refine sg_137_155 (d := 5) ⟨fun _ => ?_, f5.2.trans (f4.2.trans t2), h5, f2.trans (f4.1.trans f5.1)⟩
      show aI (nI (mJp B 0 p)) = aI (nI (mSt (mJp B 0 p)))
      rw [show mSt (mJp B 0 p) = mJp B 0 p from if_neg (by omega)]
    have lastF := fun (b' : Bool) (hb : b' = b) σ4 (h4 : ax_rm σ4 m M (mFin0 A w p b')) f4 => last (mFin0 A w p b') σ4 h4 (mJJ_fin0 hJJ hwp b') (mTn_fin0 hT w p b') (mR_fin0 A w p b').1 (mR_fin0 A w p b').2 f4 (fin0_st A w p b')
    -- it fails for good
    have fail : b = false → (Nat.beq (mU A 11 (pR p)) 7 && !(mStop A (pR p) (pK p)) && Nat.blt (mJp A 2 p) (mS A 5 (pK p))) = false → ax_wp e0 mo 5 105 (0, ax_entry 105 [aR m, aI (nI p), aI 4], []) (putI σ2 20 w (M 20) (-1)) (ax_ct (fun v σ3 => ax_wp e0 mo 6 137 (134, [aR m, aI (nI w), aI (bI b), aI (nI p), aI (nI (pR p)), aI (nI (pK p)), aI (nI (mJp A 2 p)), aU], ax_push v []) σ3 (ax_ct (rf_an m M σ ((0, nI (mSt (mJp (mFin0 A w p b) 0 p))), mFol (mFin0 A w p b) (pR p))) (fun _ _ => False))) (fun E σ3 => ax_exc 137 131 (ax_ct (rf_an m M σ ((0, nI (mSt (mJp (mFin0 A w p b) 0 p))), mFol (mFin0 A w p b) (pR p))) (fun _ _ => False)) E σ3)) := fun hb hc => by
      subst hb
      refine ax_use (as_105 (s := 4) h3 hI3 hT3 p1 p2) rfl fun v σ4 hv => ?_
      obtain ⟨rfl, h4, f4⟩ := hv
      have hJ4 := mJJ_give hJJ hwp (s := 4) (by decide) (by decide)
      refine sg_137_134 (d := 5) ⟨ax_kd h4.1.1, ?_⟩
      refine ax_use (ct_138 h4 hJ4.1.1 hT3 p1 hk8 p2 (by show (mQ A).length ≤ 800; omega) fun a ha => by have := mQ_small hQ hI ha; omega) rfl fun v σ5 hv => ?_
      obtain ⟨rfl, h5, f5⟩ := hv
      refine lastF false rfl σ5 ?_ ((f3.trans f4).trans f5)
      unfold mFin0
      rw [hc]
      exact h5
    refine ⟨u2, by decide, by decide, by decide, ax_kd h2.1.1, u2, ax_kd h2.1.1, v2', by decide, by decide, fun z => ?_, fun z => ?_⟩
    · have hb := bI0 z
      refine ⟨ax_kd h2.1.1, x2', pk_eq (mU A 11 (pR p)) 7 (fun q7 => ⟨ax_kd h2.1.1, ?_⟩) (fun q7 => ⟨ax_kd h2.1.1, fail hb ?_⟩)⟩
      · refine ax_use0 (ct_109 h3 hI3 hT3 p1 hk8) rfl ?_
        have es : mStop (mFre A w) (pR p) (pK p) = mStop A (pR p) (pK p) := rfl
        rw [es]
        obtain ⟨r1, r2, r3, r4⟩ := rm_st h3 (f := 5) (by decide) (by decide) hk8
        have r4 : sgI (putI σ2 20 w (M 20) (-1)) 20 (pK p) (M 5) = nI (mS A 5 (pK p)) := r4
        have hb5 := (hI.2.2.1 (pK p)).1
        have hf2 := (hI.2.2.2.2.2 (pR p) (pK p) (pJ p) p1).2.1
        have hf2 : mJp A 2 p ≤ 2 := hf2
        refine sg_137_93 (d := 5) ⟨fun q => ⟨ax_kd h3.1.1, ?_⟩, fun q => ⟨ax_kd h3.1.1, fail hb ?_⟩⟩
        · rw [r1, r3, r4]
          refine ⟨r2, pk_lt (mJp A 2 p) (mS A 5 (pK p)) (fun q5 => ⟨ax_kd h3.1.1, ?_⟩) (fun q5 => ⟨ax_kd h3.1.1, fail hb ?_⟩)⟩
          · have ew : nI (mC (mFre A w) (pR p) (pK p) (pJ p)) + 128 = nI (mC (mUpp (mFre A w) 42 p (mJp A 2 p + 1)) (pR p) (pK p) (pJ p)) := by
              have := mC_up2 (mFre A w) (pR p) (pK p) (pJ p)
              rw [show (128 : Int32) = nI 128 from rfl, nI_add, ← this]
              rfl
            rw [v1, v3, v4, ew]
            have h4 : ax_rm (putI (putI σ2 20 w (M 20) (-1)) 20 p (M 17) (nI (mC (mUpp (mFre A w) 42 p (mJp A 2 p + 1)) (pR p) (pK p) (pJ p)))) m M (mUpp (mFre A w) 42 p (mJp A 2 p + 1)) := rm_jupp (f := 2) (v := mJp A 2 p + 1) h3 p1 p2 (by decide)
            have f4 := f3.row a17 (nI (mC (mUpp (mFre A w) 42 p (mJp A 2 p + 1)) (pR p) (pK p) (pJ p))) (Or.inl rfl) (i := p)
            have hI4 : mB (mUpp (mFre A w) 42 p (mJp A 2 p + 1)) := by
              refine mB_cong (A := mFre A w) (fun f r' k' j' a b => mUp_f _ (by omega) r' k' j') (fun r' hr' => (hI3.2.2.2.2.1 r' hr').1) (fun r' k' j' hr' => ?_) hI3
              obtain ⟨g1, g2, g3⟩ := hI3.2.2.2.2.2 r' k' j' hr'
              refine ⟨g1, ?_, g3⟩
              show (mUpp (mFre A w) 42 p (mJp A 2 p + 1)).1 42 r' k' j' ≤ 2
              by_cases zz : r' = pR p ∧ k' = pK p ∧ j' = pJ p
              · obtain ⟨rfl, rfl, rfl⟩ := zz
                rw [mUp_at]; omega
              · rw [mUp_ne _ zz]; exact g2
            refine ⟨v2, v2, ax_kd h3.1.1, ax_use (as_112 h4 hI4 hT3 p1 p2 (by show (mQ A).length < 800; omega)) rfl fun v σ5 hv => ?_⟩
            obtain ⟨rfl, h5, f5⟩ := hv
            refine sg_137_125 (d := 5) ?_
            subst hb
            refine lastF false rfl σ5 ?_ (f4.trans f5)
            unfold mFin0
            rw [q7, bI0 q, Nat.blt_eq.mpr q5]
            exact h5
          · rw [not_true_b (fun y => absurd (Nat.blt_eq.mp y) (by omega)), Bool.and_false]
        · rw [bI1 q, Bool.not_true, Bool.and_false, Bool.false_and]
      · rw [nb_ne q7, Bool.false_and, Bool.false_and]
    · have hb := bI1 z
      subst hb
      refine ⟨ax_kd h2.1.1, ?_⟩
      refine ax_use (as_105 (s := 3) h3 hI3 hT3 p1 p2) rfl fun v σ4 hv => ?_
      obtain ⟨rfl, h4, f4⟩ := hv
      have hJ4 := mJJ_give hJJ hwp (s := 3) (by decide) (by decide)
      refine sg_137_65 (d := 5) ⟨ax_kd h4.1.1, ?_⟩
      refine ax_use (as_147 h4 hJ4.1.1 hJ4.2.2.2.2.2.1 p1 k2) rfl fun v σ5 hv => ?_
      obtain ⟨rfl, h5, f5⟩ := hv
      refine sg_137_70 (d := 5) ?_
      exact lastF true rfl σ5 h5 ((f3.trans f4).trans f5)
theorem ct_139 (h : ax_rm σ m M A) (hJJ : mJJ A) {n : Nat} (hT : mTn A n) (hn : n < 1000) (x : Int32) : ax_ok e0 mo 6 139 [aR m, aI x] σ (rf_an m M σ (oLose A x)) := by
  obtain ⟨⟨hI, hP, hN⟩, hGo, hQ, hW, hJ, hE, h60⟩ := id hJJ
  have hR := hI.1.2
  have hNN := hI.1.1
  have hql := mQ_len hGo hQ
  unfold oLose
  refine sg_139_0 (d := 5) ⟨ax_kd h.1.1, ?_⟩
  refine ax_use (ct_136 h (fun w => mW_small hW hI w) x) rfl fun w σ2 hw => ?_
  obtain ⟨rfl, h2, f2, t2⟩ := hw
  refine sg_139_5 (d := 5) ⟨fun q => ?_, fun q => ⟨ax_kd h2.1.1, ?_⟩⟩
  · have e := bI0 q
    unfold hasW at e
    cases e1 : inB x 4 with
    | false =>
      rw [e1] at t2
      exact ⟨fun z => (Nat.one_ne_zero z).elim, t2, h2, f2⟩
    | true =>
      rw [e1] at t2 e
      have e3 : Nat.beq (mW A x.toNatClampNeg) 0 = true := not_false_b (fun y => by rw [y] at e; cases e)
      rw [e3] at t2 ⊢
      exact ⟨fun z => (Nat.succ_ne_zero 1 z).elim, t2, h2, f2⟩
  · obtain ⟨w, p, rfl, hw4, c1, hwp, hwp1, p1, p2, p3, hp0⟩ := hasW_yes hW hI (bI1 q)
    have e1 : inB (nI w) 4 = true := inB_nI hw4 (by decide)
    have e2 : Nat.beq (mW A w) 0 = false := nb_ne (by omega)
    rw [e1, c1, e2] at t2
    rw [e1, c1, e2, hwp1]
    have hk8 : pK p < 8 := (pl_of p).2.1
    obtain ⟨u1, u2, u3, u4⟩ := rm_w h2 hw4
    rw [nI_p1 (show mW A w ≠ 0 by omega), hwp1] at u4
    have a20 : ax_mr 20 := mr_of (by decide) (by decide) (by decide) (by decide)
    have h3 := rm_w1 h2 hw4 (v := -1) (n := 0) rfl
    have f3 := (ax_mf.refl m M σ2).row a20 (-1) (Or.inl rfl) (i := w)
    have hI3 : mB (mFre A w) := mB_w hI _ _ _ _
    have hT3 : mT (mFre A w) := mTn_T (n := n) hT (by omega)
    obtain ⟨x1, x2, x3⟩ := rm_run h3 hI3 (f := 11) (by decide) (show pR p < 80 by omega)
    have x4 := (h3.2.2.2.1 (pR p) p1).1
    have er : nI p / 128 = nI (pR p) := by rw [show (128 : Int32) = nI 128 from rfl, pk_div (by omega) (by decide) (by decide)]
    have ek : (nI p - nI p / 128 * 128) / 16 = nI (pK p) := by rw [show (128 : Int32) = nI 128 from rfl, pk_rem (by omega) (by decide) (by decide), show (16 : Int32) = nI 16 from rfl, pk_div (by omega) (by decide) (by decide)]
    have x1' : sgR σ2 7 11 m = M 11 := x1
    have x2' : ax_in σ2 20 (M 11) (nI (pR p)) := x2
    rw [u1, u4, ek, er, x1', x3, x4]
    have hst : mU A 11 (pR p) < 11 := by have := (hI.2.2.2.2.1 _ p1).1; omega
    have ex : (mU (mFre A w) 11 (pR p)) = mU A 11 (pR p) := rfl
    rw [ex]
    have last : ∀ (σ4 : SG), ax_rm σ4 m M (mLos0 A w p) → ax_mf m M σ2 σ4 → ax_wp e0 mo 6 139 (91, [aR m, aI (nI w), aI (nI p), aI (nI (pR p)), aI (nI (pK p)), aU], []) σ4 (ax_ct (rf_an m M σ ((0, nI (mSt (mJp (mLos0 A w p) 0 p))), mFol (mLos0 A w p) (pR p))) (fun _ _ => False)) := by
      intro σ4 h4 f4
      have hJ4 := mJJ_los0 hJJ hwp
      obtain ⟨eR, e11⟩ := mR_los0 A w p
      have hT4 := mTn_T (mTn_los0 hT w p) (by omega)
      have hs8 : mJp (mLos0 A w p) 0 p ≤ 8 := (hJ4.1.1.2.2.2.2.2 (pR p) (pK p) (pJ p) (by rw [eR]; exact p1)).1
      refine sg_139_91 (d := 5) ⟨ax_kd h4.1.1, ?_⟩
      refine ax_use0 (as_104 h4 hJ4.1.1 hT4 (by rw [eR]; exact p1)) rfl ?_
      refine sg_139_96 (d := 5) ⟨ax_kd h4.1.1, ?_⟩
      refine ax_use (ct_117 h4 hJ4 hT4 (by rw [eR]; exact p1) (by unfold mG at p2 ⊢; rw [e11]; exact p2)) rfl fun v σ5 hv => ?_
      obtain ⟨rfl, h5, f5⟩ := hv
      refine sg_139_103 (d := 5) (pk_eq (mJp (mLos0 A w p) 0 p) 7 (fun q => ⟨fun _ => ?_, f5.2.trans (f4.2.trans t2), h5, f2.trans (f4.1.trans f5.1)⟩) (fun q => ⟨fun _ => ?_, f5.2.trans (f4.2.trans t2), h5, f2.trans (f4.1.trans f5.1)⟩))
      · show aI 5 = aI (nI (mSt (mJp (mLos0 A w p) 0 p)))
        rw [q]; rfl
      · show aI (nI (mJp (mLos0 A w p) 0 p)) = aI (nI (mSt (mJp (mLos0 A w p) 0 p)))
        rw [show mSt (mJp (mLos0 A w p) 0 p) = mJp (mLos0 A w p) 0 p from if_neg q]
    have gone : ∀ s : Nat, mLos0 A w p = mUpp (mFre A w) 40 p s → ax_wp e0 mo 5 105 (0, ax_entry 105 [aR m, aI (nI p), aI (nI s)], []) (putI σ2 20 w (M 20) (-1)) (ax_ct (fun v σ3 => ax_wp e0 mo 6 139 (91, [aR m, aI (nI w), aI (nI p), aI (nI (pR p)), aI (nI (pK p)), aU], ax_push v []) σ3 (ax_ct (rf_an m M σ ((0, nI (mSt (mJp (mLos0 A w p) 0 p))), mFol (mLos0 A w p) (pR p))) (fun _ _ => False))) (fun E σ3 => ax_exc 139 88 (ax_ct (rf_an m M σ ((0, nI (mSt (mJp (mLos0 A w p) 0 p))), mFol (mLos0 A w p) (pR p))) (fun _ _ => False)) E σ3)) := fun s hs => by
      refine ax_use (as_105 (s := s) h3 hI3 hT3 p1 p2) rfl fun v σ4 hv => ?_
      obtain ⟨rfl, h4, f4⟩ := hv
      exact last σ4 (by rw [hs]; exact h4) (f3.trans f4)
    refine ⟨u2, by decide, by decide, by decide, ax_kd h2.1.1, u2, ax_kd h2.1.1, x2', pk_eq (mU A 11 (pR p)) 7 (fun q7 => ⟨ax_kd h2.1.1, ?_⟩) (fun q7 => ⟨ax_kd h2.1.1, x2', fun z => absurd ((nI_eq (b := 7) (by omega) (by decide)).mp z) q7, fun _ => ⟨ax_kd h2.1.1, gone 5 ?_⟩⟩)⟩
    · refine ax_use0 (ct_109 h3 hI3 hT3 p1 hk8) rfl ?_
      have es : mStop (mFre A w) (pR p) (pK p) = mStop A (pR p) (pK p) := rfl
      rw [es]
      refine sg_139_58 (d := 5) ⟨fun q => ⟨ax_kd h3.1.1, ?_⟩, fun q => ⟨ax_kd h3.1.1, ?_⟩⟩
      · refine ax_use (as_112 h3 hI3 hT3 p1 p2 (by show (mQ A).length < 800; omega)) rfl fun v σ5 hv => ?_
        obtain ⟨rfl, h5, f5⟩ := hv
        refine sg_139_66 (d := 5) (last σ5 ?_ (f3.trans f5))
        unfold mLos0
        rw [q7, bI0 q]
        exact h5
      · rw [x1, x3, x4, ex, q7]
        refine ⟨x2, fun _ => ⟨ax_kd h3.1.1, gone 7 ?_⟩, fun z => absurd rfl z⟩
        unfold mLos0
        rw [q7, bI1 q]
        rfl
    · unfold mLos0
      rw [nb_ne q7]
      rfl
end
end AXMV
