/-! The reference's calls that write stages: contracts. -/
section AXMX
theorem mUp_same {A : MS} {f r k j v : Nat} (h : A.1 f r k j = v) : mUp A f r k j v = A := by
  refine Prod.ext ?_ rfl
  funext f' r' k' j'
  show (if f' = f ∧ r' = r ∧ k' = k ∧ j' = j then v else A.1 f' r' k' j') = A.1 f' r' k' j'
  by_cases z : f' = f ∧ r' = r ∧ k' = k ∧ j' = j
  · rw [if_pos z]
    obtain ⟨rfl, rfl, rfl, rfl⟩ := z
    exact h.symm
  · rw [if_neg z]
section
variable {e0 mo : Nat} {σ σ1 : SG} {m : Nat} {M : Nat → Nat} {A : MS} {r k j p w : Nat}
theorem rm_num0 (h : ax_rm σ m M A) {v : Int32} {n : Nat} (hv : v = nI n) : ax_rm (putI σ 7 0 m v) m M (mUp A 0 0 0 0 n) := by
  refine rm_stg h (up_hi (by decide)) rfl rfl rfl rfl (fun k' i q' n1 n2 => ?_) ?_ (fun f' k' a b c => ?_)
  · rw [gI_putI, if_neg (show ¬ (k' = 7 ∧ i = 0 ∧ q' = m) from n2)]
  · rw [gI_putI, if_pos ⟨rfl, rfl, rfl⟩, hv]
    exact congrArg nI (mUp_at A 0 0 0 0 n).symm
  · rw [mS_up, if_neg (show ¬ (f' = 0 ∧ k' = 0) from fun z => by omega), gI_putI, if_neg (show ¬ ((if f' < 7 then 20 else 21) = 7 ∧ k' = 0 ∧ M f' = m) from fun z => by have := z.1; split at this <;> omega)]
    exact h.2.2.1 f' k' a b c
theorem mGo_le (hI : mB A) : mGo A ≤ 80 := Nat.le_trans (ax_n_le _ _) hI.1.2
theorem rm_stR (h : ax_rm σ m M A) {f : Nat} (h1 : 1 ≤ f) (h9 : f ≤ 9) : sgR σ 7 f m = M f := (rm_st h h1 h9 (k := 0) (by decide)).1
theorem ct_92 (h : ax_rm σ m M A) (hJ : mJJ A) (x y : Int32) : ax_ok e0 mo 1 92 [aR m, aI x, aI y] σ (rf_an m M σ (oAddStage A x y)) := by
  have hI := hJ.1.1
  have hN := hI.1.1
  have hgl := mGo_le hI
  have mk : ∀ f, 1 ≤ f → f ≤ 9 → ax_mr f := fun f a b => mr_of (by omega) (by omega) (by omega) (by omega)
  unfold oAddStage
  have mid : ∀ b : Bool, b = (in14 x && in14 y) → ax_wp e0 mo 1 92 (28, [aR m, aI x, aI y], [aI (nI (mGo A)), aI (bI b), aR m]) σ (ax_ct (rf_an m M σ (bif in14 x && in14 y then (bif Nat.beq (mGo A) 0 && Nat.blt (mN A) 8 then ((0, nI (mN A)), mAddS A x.toNatClampNeg y.toNatClampNeg) else ((2, 0), A)) else ((1, 0), A))) (fun _ _ => False)) := fun b hb => by
    rw [← hb]
    have last : ∀ c : Bool, c = (Nat.beq (mGo A) 0 && Nat.blt (mN A) 8) → ax_wp e0 mo 0 87 (0, ax_entry 87 [aR m, aI (bI b), aI (bI c)], []) σ (ax_ct (fun v σ3 => ax_wp e0 mo 1 92 (48, [aR m, aI x, aI y], ax_push v []) σ3 (ax_ct (rf_an m M σ (bif b then (bif Nat.beq (mGo A) 0 && Nat.blt (mN A) 8 then ((0, nI (mN A)), mAddS A x.toNatClampNeg y.toNatClampNeg) else ((2, 0), A)) else ((1, 0), A))) (fun _ _ => False))) (fun E σ3 => ax_exc 92 45 (ax_ct (rf_an m M σ (bif b then (bif Nat.beq (mGo A) 0 && Nat.blt (mN A) 8 then ((0, nI (mN A)), mAddS A x.toNatClampNeg y.toNatClampNeg) else ((2, 0), A)) else ((1, 0), A))) (fun _ _ => False)) E σ3)) := fun c hc => by
      rw [← hc]
      refine ax_use (as_87 h b c) rfl fun w σ2 hw => ?_
      obtain ⟨rfl, h2, f2, t2⟩ := hw
      cases b with
      | false => exact sg_92_48 (d := 0) ⟨fun _ => ⟨fun z => (Nat.one_ne_zero z).elim, t2, h2, f2⟩, fun z => absurd rfl z⟩
      | true =>
        cases c with
        | false => exact sg_92_48 (d := 0) ⟨fun _ => ⟨fun z => (Nat.succ_ne_zero 1 z).elim, t2, h2, f2⟩, fun z => absurd rfl z⟩
        | true =>
          have hb := hb.symm
          have hc := hc.symm
          rw [Bool.and_eq_true] at hb hc
          obtain ⟨a, a1, a2, rfl⟩ := in14_yes hb.1
          obtain ⟨b, b1, b2, rfl⟩ := in14_yes hb.2
          have hN8 := Nat.blt_eq.mp hc.2
          have ca : (nI a).toNatClampNeg = a := nI_clamp (by omega)
          have cb : (nI b).toNatClampNeg = b := nI_clamp (by omega)
          have cn : (nI (mN A)).toNatClampNeg = mN A := nI_clamp (by omega)
          have r1 := rm_stR h2 (f := 1) (by decide) (by decide)
          have r2 := rm_stR h2 (f := 2) (by decide) (by decide)
          have r3 := rm_stR h2 (f := 3) (by decide) (by decide)
          have r4 := rm_stR h2 (f := 4) (by decide) (by decide)
          have r9 := rm_stR h2 (f := 9) (by decide) (by decide)
          have i1 := (rm_st h2 (f := 1) (by decide) (by decide) hN8).2.1
          have i2 := (rm_st h2 (f := 2) (by decide) (by decide) hN8).2.1
          have i3 := (rm_st h2 (f := 3) (by decide) (by decide) hN8).2.1
          have i4 := (rm_st h2 (f := 4) (by decide) (by decide) hN8).2.1
          have i9 := (rm_st h2 (f := 9) (by decide) (by decide) hN8).2.1
          refine sg_92_48 (d := 0) ⟨fun z => absurd z (by decide), fun _ => ?_⟩
          rw [h2.2.1.1, cn, r1, r2, r3, r4, r9, nI_1, ca, cb]
          refine ⟨ax_kd h2.1.1, ax_kd h2.1.1, i1, ax_kd h2.1.1, ax_kd h2.1.1, i2, ax_kd h2.1.1, ax_kd h2.1.1, i3, ax_kd h2.1.1, ax_kd h2.1.1, i4, ax_kd h2.1.1, ax_kd h2.1.1, ⟨Or.inr rfl, i9⟩, ax_kd h2.1.1, ax_kd h2.1.1, ax_kd h2.1.1, fun _ => ?_, ?_, ?_, ?_⟩
          · rw [gI_putI, if_pos ⟨rfl, rfl, rfl⟩, nI_pred]
            rfl
          · have ff : ax_mf m M σ2 (putI (putI (putI (putI (putI (putI σ2 20 (mN A) (M 1) (nI a)) 20 (mN A) (M 2) (nI b)) 20 (mN A) (M 3) 0) 20 (mN A) (M 4) 0) 21 (mN A) (M 9) 1) 7 0 m (nI (mN A + 1))) := ((((((ax_mf.refl m M σ2).row (mk 1 (by decide) (by decide)) _ (Or.inl rfl)).row (mk 2 (by decide) (by decide)) _ (Or.inl rfl)).row (mk 3 (by decide) (by decide)) _ (Or.inl rfl)).row (mk 4 (by decide) (by decide)) _ (Or.inl rfl)).row (mk 9 (by decide) (by decide)) _ (Or.inr rfl)).num _
            exact ff.2.trans t2
          · have st := rm_num0 (rm_st1 (rm_st1 (rm_st1 (rm_st1 (rm_st1 h2 (f := 1) (x := mN A) (by decide) (by decide) (v := nI a) rfl (q := 20) rfl) (f := 2) (x := mN A) (by decide) (by decide) (v := nI b) rfl (q := 20) rfl) (f := 3) (x := mN A) (n := 0) (by decide) (by decide) (v := 0) rfl (q := 20) rfl) (f := 4) (x := mN A) (n := 0) (by decide) (by decide) (v := 0) rfl (q := 20) rfl) (f := 9) (x := mN A) (n := 1) (by decide) (by decide) (v := 1) rfl (q := 21) rfl) (v := nI (mN A + 1)) (n := mN A + 1) rfl
            have z3 := hI.2.2.2.1 (mN A) 3 (Nat.le_refl _) (by decide) (by decide)
            have z4 := hI.2.2.2.1 (mN A) 4 (Nat.le_refl _) (by decide) (by decide)
            have s3 : mUp (mUp (mUp A 1 (mN A) 0 0 a) 2 (mN A) 0 0 b) 3 (mN A) 0 0 0 = mUp (mUp A 1 (mN A) 0 0 a) 2 (mN A) 0 0 b := mUp_same ((mUp_f _ (by decide) _ _ _).trans ((mUp_f _ (by decide) _ _ _).trans z3))
            have s4 : mUp (mUp (mUp A 1 (mN A) 0 0 a) 2 (mN A) 0 0 b) 4 (mN A) 0 0 0 = mUp (mUp A 1 (mN A) 0 0 a) 2 (mN A) 0 0 b := mUp_same ((mUp_f _ (by decide) _ _ _).trans ((mUp_f _ (by decide) _ _ _).trans z4))
            rw [s3, s4] at st
            exact st
          · have ff : ax_mf m M σ2 (putI (putI (putI (putI (putI (putI σ2 20 (mN A) (M 1) (nI a)) 20 (mN A) (M 2) (nI b)) 20 (mN A) (M 3) 0) 20 (mN A) (M 4) 0) 21 (mN A) (M 9) 1) 7 0 m (nI (mN A + 1))) := ((((((ax_mf.refl m M σ2).row (mk 1 (by decide) (by decide)) _ (Or.inl rfl)).row (mk 2 (by decide) (by decide)) _ (Or.inl rfl)).row (mk 3 (by decide) (by decide)) _ (Or.inl rfl)).row (mk 4 (by decide) (by decide)) _ (Or.inl rfl)).row (mk 9 (by decide) (by decide)) _ (Or.inr rfl)).num _
            exact f2.trans ff.1
    refine sg_92_28 (d := 0) (pk_eq (mGo A) 0 (fun z => ⟨ax_kd h.1.1, ?_⟩) (fun z => ⟨ax_kd h.1.1, last false ?_⟩))
    · rw [h.2.1.1]
      refine pk_lt (mN A) 8 (fun y => ⟨ax_kd h.1.1, last true ?_⟩) (fun y => ⟨ax_kd h.1.1, last false ?_⟩)
      · rw [z, Nat.blt_eq.mpr y]; rfl
      · rw [not_true_b (fun w => absurd (Nat.blt_eq.mp w) (by omega)), Bool.and_false]
    · rw [nb_ne z, Bool.false_and]
  refine sg_92_0 (d := 0) ?_
  refine ax_use0 (ct_85 _ _ _) rfl ?_
  refine sg_92_7 (d := 0) ⟨fun q => ⟨ax_kd h.1.1, ax_use0 (ct_91 h hI) rfl (mid false ?_)⟩, fun q => ?_⟩
  · rw [show in14 x = false from bI0 q]; rfl
  · refine ax_use0 (ct_85 _ _ _) rfl ?_
    refine sg_92_16 (d := 0) ⟨fun q2 => ⟨ax_kd h.1.1, ax_use0 (ct_91 h hI) rfl (mid false ?_)⟩, fun q2 => ⟨ax_kd h.1.1, ax_use0 (ct_91 h hI) rfl (mid true ?_)⟩⟩
    · rw [show in14 y = false from bI0 q2, Bool.and_false]
    · rw [show in14 x = true from bI1 q, show in14 y = true from bI1 q2]; rfl
theorem ct_99 (h : ax_rm σ m M A) (hJ : mJJ A) (x : Int32) (f c i : Bool) : ax_ok e0 mo 2 99 [aR m, aI x, aI (bI f), aI (bI c), aI (bI i)] σ (fun w σ2 => w = aU ∧ sgI σ2 7 23 m = nI (oSetMarks A x f c i).1.1 ∧ ax_rm σ2 m M (oSetMarks A x f c i).2 ∧ rf_w m M σ σ2) := by
  have hI := hJ.1.1
  have hN := hI.1.1
  have hgl := mGo_le hI
  have mk : ∀ f, 1 ≤ f → f ≤ 9 → ax_mr f := fun f a b => mr_of (by omega) (by omega) (by omega) (by omega)
  unfold oSetMarks
  refine sg_99_0 (d := 1) ⟨ax_kd h.1.1, ?_⟩
  refine ax_use0 (ct_90 h x) rfl ?_
  refine sg_99_6 (d := 1) ⟨ax_kd h.1.1, ?_⟩
  refine ax_use0 (ct_91 h hI) rfl ?_
  have last : ∀ b : Bool, b = Nat.beq (mGo A) 0 → ax_wp e0 mo 1 87 (0, ax_entry 87 [aR m, aI (bI (inB x (mN A))), aI (bI b)], []) σ (ax_ct (fun v σ3 => ax_wp e0 mo 2 99 (21, [aR m, aI x, aI (bI f), aI (bI c), aI (bI i)], ax_push v []) σ3 (ax_ct (fun w σ2 => w = aU ∧ sgI σ2 7 23 m = nI (bif inB x (mN A) then (bif Nat.beq (mGo A) 0 then ((0, (0 : Int32)), mSetM A x.toNatClampNeg f c i) else ((2, 0), A)) else ((1, 0), A)).1.1 ∧ ax_rm σ2 m M (bif inB x (mN A) then (bif Nat.beq (mGo A) 0 then ((0, (0 : Int32)), mSetM A x.toNatClampNeg f c i) else ((2, 0), A)) else ((1, 0), A)).2 ∧ rf_w m M σ σ2) (fun _ _ => False))) (fun E σ3 => ax_exc 99 18 (ax_ct (fun w σ2 => w = aU ∧ sgI σ2 7 23 m = nI (bif inB x (mN A) then (bif Nat.beq (mGo A) 0 then ((0, (0 : Int32)), mSetM A x.toNatClampNeg f c i) else ((2, 0), A)) else ((1, 0), A)).1.1 ∧ ax_rm σ2 m M (bif inB x (mN A) then (bif Nat.beq (mGo A) 0 then ((0, (0 : Int32)), mSetM A x.toNatClampNeg f c i) else ((2, 0), A)) else ((1, 0), A)).2 ∧ rf_w m M σ σ2) (fun _ _ => False)) E σ3)) := fun b hb => by
    rw [← hb]
    refine ax_use (as_87 h (inB x (mN A)) b) rfl fun w σ2 hw => ?_
    obtain ⟨rfl, h2, f2, t2⟩ := hw
    cases e : inB x (mN A) with
    | false =>
      rw [e] at t2
      exact sg_99_21 (d := 1) ⟨fun _ => ⟨rfl, t2, h2, f2⟩, fun z => absurd rfl z⟩
    | true =>
      rw [e] at t2
      cases b with
      | false => exact sg_99_21 (d := 1) ⟨fun _ => ⟨rfl, t2, h2, f2⟩, fun z => absurd rfl z⟩
      | true =>
        obtain ⟨k, hk, rfl⟩ := inB_yes e (by omega)
        have ck : (nI k).toNatClampNeg = k := nI_clamp (by omega)
        have hk8 : k < 8 := by omega
        have r7 := rm_stR h2 (f := 7) (by decide) (by decide)
        have r8 := rm_stR h2 (f := 8) (by decide) (by decide)
        have r9 := rm_stR h2 (f := 9) (by decide) (by decide)
        have i7 := (rm_st h2 (f := 7) (by decide) (by decide) hk8).2.1
        have i8 := (rm_st h2 (f := 8) (by decide) (by decide) hk8).2.1
        have i9 := (rm_st h2 (f := 9) (by decide) (by decide) hk8).2.1
        refine sg_99_21 (d := 1) ⟨fun z => absurd z (by decide), fun _ => ⟨ax_kd h2.1.1, ?_⟩⟩
        rw [ck, r7, r8, r9]
        have ff : ax_mf m M σ2 (putI (putI (putI σ2 21 k (M 7) (bI f)) 21 k (M 8) (bI c)) 21 k (M 9) (bI i)) := (((ax_mf.refl m M σ2).row (mk 7 (by decide) (by decide)) _ (Or.inr rfl)).row (mk 8 (by decide) (by decide)) _ (Or.inr rfl)).row (mk 9 (by decide) (by decide)) _ (Or.inr rfl)
        refine ⟨⟨bI01 f, i7⟩, ax_kd h2.1.1, ⟨bI01 c, i8⟩, ax_kd h2.1.1, ⟨bI01 i, i9⟩, rfl, ff.2.trans t2, ?_, f2.trans ff.1⟩
        exact rm_st1 (rm_st1 (rm_st1 h2 (f := 7) (x := k) (by decide) (by decide) (v := bI f) (bI_nI f) (q := 21) rfl) (f := 8) (x := k) (by decide) (by decide) (v := bI c) (bI_nI c) (q := 21) rfl) (f := 9) (x := k) (by decide) (by decide) (v := bI i) (bI_nI i) (q := 21) rfl
  refine sg_99_10 (d := 1) (pk_eq (mGo A) 0 (fun z => ⟨ax_kd h.1.1, last true ?_⟩) (fun z => ⟨ax_kd h.1.1, last false ?_⟩))
  · rw [z]; rfl
  · rw [nb_ne z]
theorem ct_95 (h : ax_rm σ m M A) (hJ : mJJ A) (x y : Int32) : ax_ok e0 mo 2 95 [aR m, aI x, aI y] σ (rf_an m M σ (oNeed A x y)) := by
  have hI := hJ.1.1
  have hN := hI.1.1
  have hgl := mGo_le hI
  have a4 : ax_mr 4 := mr_of (by decide) (by decide) (by decide) (by decide)
  unfold oNeed
  have no : ∀ o : OC, o = ((1, 0), A) → ax_wp e0 mo 1 87 (0, ax_entry 87 [aR m, aI 0, aI 0], []) σ (ax_ct (fun w σ2 => ax_wp e0 mo 2 95 (73, [aR m, aI x, aI y, aI 0], ax_push w []) σ2 (ax_ct (rf_an m M σ o) (fun _ _ => False))) (fun E σ2 => ax_exc 95 70 (ax_ct (rf_an m M σ o) (fun _ _ => False)) E σ2)) := fun o e => by
    refine ax_use (as_87 h false false) rfl fun w σ2 hw => ?_
    obtain ⟨rfl, h2, f2, t2⟩ := hw
    subst e
    exact sg_95_73 (d := 1) ⟨fun _ => ⟨fun z => (Nat.one_ne_zero z).elim, t2, h2, f2⟩, fun q => absurd rfl q⟩
  refine sg_95_0 (d := 1) ⟨ax_kd h.1.1, ?_⟩
  refine ax_use0 (ct_90 h x) rfl ?_
  refine sg_95_5 (d := 1) ⟨fun q => ⟨fun _ => ⟨ax_kd h.1.1, no _ ?_⟩, fun z => absurd rfl z⟩, fun q => ⟨ax_kd h.1.1, ?_⟩⟩
  · rw [show inB x (mN A) = false from bI0 q]; rfl
  have e1 : inB x (mN A) = true := bI1 q
  refine ax_use0 (ct_90 h y) rfl ?_
  refine sg_95_13 (d := 1) ⟨fun q => ⟨fun _ => ⟨ax_kd h.1.1, no _ ?_⟩, fun z => absurd rfl z⟩, fun q => ⟨fun z => absurd z (by decide), fun _ => ⟨ax_kd h.1.1, ?_⟩⟩⟩
  · rw [e1, show inB y (mN A) = false from bI0 q]; rfl
  have e2 : inB y (mN A) = true := bI1 q
  rw [e1, e2]
  obtain ⟨k, hk, rfl⟩ := inB_yes e1 (by omega)
  obtain ⟨o, ho, rfl⟩ := inB_yes e2 (by omega)
  have ck : (nI k).toNatClampNeg = k := nI_clamp (by omega)
  have co : (nI o).toNatClampNeg = o := nI_clamp (by omega)
  rw [ck, co]
  have hb4 := mB_needs hI
  refine ax_use0 (ct_91 h hI) rfl ?_
  have last : ∀ c : Bool, c = needB A k o → ax_wp e0 mo 1 87 (0, ax_entry 87 [aR m, aI 1, aI (bI c)], []) σ (ax_ct (fun v σ3 => ax_wp e0 mo 2 95 (73, [aR m, aI (nI k), aI (nI o), aI 1], ax_push v []) σ3 (ax_ct (rf_an m M σ (bif needB A k o then ((0, nI (ax_bc (mS A 4 k ||| 2 ^ o) 16)), mNeed A k o) else ((2, 0), A))) (fun _ _ => False))) (fun E σ3 => ax_exc 95 70 (ax_ct (rf_an m M σ (bif needB A k o then ((0, nI (ax_bc (mS A 4 k ||| 2 ^ o) 16)), mNeed A k o) else ((2, 0), A))) (fun _ _ => False)) E σ3)) := fun c hc => by
    rw [← hc]
    refine ax_use (as_87 h true c) rfl fun w σ2 hw => ?_
    obtain ⟨rfl, h2, f2, t2⟩ := hw
    cases c with
    | false => exact sg_95_73 (d := 1) ⟨fun _ => ⟨fun z => (Nat.succ_ne_zero 1 z).elim, t2, h2, f2⟩, fun z => absurd rfl z⟩
    | true =>
      obtain ⟨r1, i1, -, v1⟩ := rm_st h2 (f := 4) (by decide) (by decide) (show k < 8 by omega)
      have v1 : sgI σ2 20 k (M 4) = nI (mS A 4 k) := v1
      refine sg_95_73 (d := 1) ⟨fun z => absurd z (by decide), fun _ => ⟨ax_kd h2.1.1, ?_⟩⟩
      rw [r1, ck, v1, one_shl o (by omega), ax_orI, show sgI (putI σ2 20 k (M 4) (nI (mS A 4 k ||| 2 ^ o))) 20 k (M 4) = nI (mS A 4 k ||| 2 ^ o) from if_pos ⟨rfl, rfl, rfl⟩]
      have hlt : mS A 4 k ||| 2 ^ o < 2 ^ 8 := Nat.or_lt_two_pow (hb4 k hk) (Nat.pow_lt_pow_right (by decide) (by omega))
      refine ⟨i1, i1, ax_kd h2.1.1, i1, ax_use0 (ct_93 (by omega)) rfl ?_⟩
      have ff := (ax_mf.refl m M σ2).row a4 (nI (mS A 4 k ||| 2 ^ o)) (Or.inl rfl) (i := k)
      exact sg_95_99 (d := 1) ⟨fun _ => rfl, ff.2.trans t2, rm_st1 h2 (f := 4) (x := k) (by decide) (by decide) rfl (q := 20) rfl, f2.trans ff.1⟩
  obtain ⟨r1, i1, -, v1⟩ := rm_st h (f := 4) (by decide) (by decide) (show k < 8 by omega)
  have v1 : sgI σ 20 k (M 4) = nI (mS A 4 k) := v1
  have hk4 := hb4 k hk
  refine sg_95_32 (d := 1) (pk_eq (mGo A) 0 (fun z => ?_) (fun z => ⟨ax_kd h.1.1, last false ?_⟩))
  · refine pk_eq k o (fun w => ⟨ax_kd h.1.1, last false ?_⟩) (fun w => ⟨ax_kd h.1.1, ?_⟩)
    · unfold needB; rw [w, Nat.beq_refl, Bool.not_true, Bool.and_false]; rfl
    · rw [r1, ck, v1, bit_nI (by omega) (by omega)]
      refine ⟨i1, fun u => ⟨ax_kd h.1.1, ?_⟩, fun u => ⟨ax_kd h.1.1, last false ?_⟩⟩
      · refine ax_use0 (ct_94 h hI ho) rfl ?_
        have ht := mTurn_lt hb4 (hb4 o ho) 8
        refine sg_95_58 (d := 1) ?_
        rw [bit_nI (by omega) (by omega)]
        refine ⟨fun v => ⟨ax_kd h.1.1, last true ?_⟩, fun v => ⟨ax_kd h.1.1, last false ?_⟩⟩
        · unfold needB; rw [z, nb_ne w, bit_zero.mp u, bit_zero.mp v]; rfl
        · unfold needB; rw [not_false_b (fun t => v (bit_zero.mpr t)), Bool.not_true, Bool.and_false]
      · unfold needB; rw [not_false_b (fun t => u (bit_zero.mpr t)), Bool.not_true, Bool.and_false]; rfl
  · unfold needB; rw [nb_ne z]; rfl
theorem ct_97 (h : ax_rm σ m M A) (hJ : mJJ A) (x y z : Int32) : ax_ok e0 mo 2 97 [aR m, aI x, aI y, aI z] σ (rf_an m M σ (oExclude A x y z)) := by
  have hI := hJ.1.1
  have hN := hI.1.1
  have hgl := mGo_le hI
  have a3 : ax_mr 3 := mr_of (by decide) (by decide) (by decide) (by decide)
  unfold oExclude
  have no : ∀ o : OC, o = ((1, 0), A) → ax_wp e0 mo 1 87 (0, ax_entry 87 [aR m, aI 0, aI 0], []) σ (ax_ct (fun w σ2 => ax_wp e0 mo 2 97 (114, [aR m, aI x, aI y, aI z, aI 0, aI 0], ax_push w []) σ2 (ax_ct (rf_an m M σ o) (fun _ _ => False))) (fun E σ2 => ax_exc 97 111 (ax_ct (rf_an m M σ o) (fun _ _ => False)) E σ2)) := fun o e => by
    refine ax_use (as_87 h false false) rfl fun w σ2 hw => ?_
    obtain ⟨rfl, h2, f2, t2⟩ := hw
    subst e
    exact sg_97_114 (d := 1) ⟨fun _ => ⟨fun z => (Nat.one_ne_zero z).elim, t2, h2, f2⟩, fun q => absurd rfl q⟩
  refine sg_97_0 (d := 1) ⟨ax_kd h.1.1, ?_⟩
  refine ax_use0 (ct_90 h x) rfl ?_
  refine sg_97_5 (d := 1) ⟨fun q => ⟨fun _ => ⟨fun _ => ⟨ax_kd h.1.1, no _ ?_⟩, fun w => absurd rfl w⟩, fun w => absurd rfl w⟩, fun q => ⟨ax_kd h.1.1, ?_⟩⟩
  · rw [show inB x (mN A) = false from bI0 q]; rfl
  have e1 : inB x (mN A) = true := bI1 q
  obtain ⟨k, hk, rfl⟩ := inB_yes e1 (by omega)
  have ck : (nI k).toNatClampNeg = k := nI_clamp (by omega)
  obtain ⟨b1, b2, b3, b4⟩ := mB_jobs hI hk
  obtain ⟨⟨c1, c2⟩, ⟨c3, c4⟩, c5, -⟩ := hI.2.1 k hk
  obtain ⟨r1, i1, -, v1⟩ := rm_st h (f := 1) (by decide) (by decide) b1
  obtain ⟨r2, i2, -, v2⟩ := rm_st h (f := 2) (by decide) (by decide) b1
  obtain ⟨r3, i3, -, v3⟩ := rm_st h (f := 3) (by decide) (by decide) b1
  have v1 : sgI σ 20 k (M 1) = nI (mS A 1 k) := v1
  have v2 : sgI σ 20 k (M 2) = nI (mS A 2 k) := v2
  have v3 : sgI σ 20 k (M 3) = nI (mS A 3 k) := v3
  rw [r1, ck, v1]
  refine ⟨i1, ax_use0 (ct_85 _ _ _) rfl ?_⟩
  refine sg_97_21 (d := 1) ⟨fun q => ⟨fun _ => ⟨fun _ => ⟨ax_kd h.1.1, no _ ?_⟩, fun w => absurd rfl w⟩, fun w => absurd rfl w⟩, fun q => ⟨ax_kd h.1.1, ?_⟩⟩
  · rw [e1, show inB y (mS A 1 k) = false from bI0 q]; rfl
  have e2 : inB y (mS A 1 k) = true := bI1 q
  rw [r2, ck, v2]
  refine ⟨i2, ax_use0 (ct_85 _ _ _) rfl ?_⟩
  refine sg_97_37 (d := 1) ⟨fun q => ⟨fun _ => ⟨fun _ => ⟨ax_kd h.1.1, no _ ?_⟩, fun w => absurd rfl w⟩, fun w => absurd rfl w⟩, fun q => ⟨fun w => absurd w (by decide), fun _ => ⟨ax_kd h.1.1, ?_⟩⟩⟩
  · rw [e1, e2, show inB z (mS A 2 k) = false from bI0 q]; rfl
  have e3 : inB z (mS A 2 k) = true := bI1 q
  rw [e1, e2, e3]
  obtain ⟨a, ha, rfl⟩ := inB_yes e2 (by omega)
  obtain ⟨b, hb, rfl⟩ := inB_yes e3 (by omega)
  have ca : (nI a).toNatClampNeg = a := nI_clamp (by omega)
  have cb : (nI b).toNatClampNeg = b := nI_clamp (by omega)
  have hj : a * mS A 2 k + b < mS A 1 k * mS A 2 k := by
    have : (a + 1) * mS A 2 k ≤ mS A 1 k * mS A 2 k := Nat.mul_le_mul_right _ ha
    rw [Nat.add_mul, Nat.one_mul] at this
    omega
  rw [r2, ck, v2, pk_mul, nI_add, ca, cb]
  generalize a * mS A 2 k + b = t at hj ⊢
  refine ⟨i2, fun w => absurd w (by decide), fun _ => ⟨ax_kd h.1.1, ?_⟩⟩
  refine ax_use0 (ct_91 h hI) rfl ?_
  have last : ∀ c : Bool, c = excB A k t → ax_wp e0 mo 1 87 (0, ax_entry 87 [aR m, aI 1, aI (bI c)], []) σ (ax_ct (fun v σ3 => ax_wp e0 mo 2 97 (114, [aR m, aI (nI k), aI (nI a), aI (nI b), aI 1, aI (nI t)], ax_push v []) σ3 (ax_ct (rf_an m M σ (bif excB A k t then ((0, nI (mJobs (mExc A k t) k)), mExc A k t) else ((2, 0), A))) (fun _ _ => False))) (fun E σ3 => ax_exc 97 111 (ax_ct (rf_an m M σ (bif excB A k t then ((0, nI (mJobs (mExc A k t) k)), mExc A k t) else ((2, 0), A))) (fun _ _ => False)) E σ3)) := fun c hc => by
    rw [← hc]
    refine ax_use (as_87 h true c) rfl fun w σ2 hw => ?_
    obtain ⟨rfl, h2, f2, t2⟩ := hw
    cases c with
    | false => exact sg_97_114 (d := 1) ⟨fun _ => ⟨fun z => (Nat.succ_ne_zero 1 z).elim, t2, h2, f2⟩, fun z => absurd rfl z⟩
    | true =>
      have hc := hc.symm
      unfold excB at hc
      simp only [Bool.and_eq_true] at hc
      obtain ⟨r1, i1, -, v1⟩ := rm_st h2 (f := 3) (by decide) (by decide) b1
      have v1 : sgI σ2 20 k (M 3) = nI (mS A 3 k) := v1
      refine sg_97_114 (d := 1) ⟨fun z => absurd z (by decide), fun _ => ⟨ax_kd h2.1.1, ?_⟩⟩
      have hsh : (1 : Int32) <<< (nI t &&& 31) = nI (2 ^ t) := by
        have : ∀ t, t < 16 → (1 : Int32) <<< (nI t &&& 31) = nI (2 ^ t) := by decide +kernel
        exact this t (by omega)
      rw [r1, ck, v1, hsh, ax_orI]
      have h3 : ax_rm (putI σ2 20 k (M 3) (nI (mS A 3 k ||| 2 ^ t))) m M (mExc A k t) := rm_st1 h2 (f := 3) (x := k) (by decide) (by decide) rfl (q := 20) rfl
      have hJ3 := mJJ_exc hJ (ax_beq hc.1.1) hk hj
      obtain ⟨d1, d2, d3, d4⟩ := mB_jobs hJ3.1.1 (show k < mN (mExc A k t) from hk)
      refine ⟨i1, i1, ax_kd h2.1.1, ax_use0 (ct_96 h3 hJ3.1.1 d1 d2 d3) rfl ?_⟩
      have ff := (ax_mf.refl m M σ2).row a3 (nI (mS A 3 k ||| 2 ^ t)) (Or.inl rfl) (i := k)
      exact sg_97_137 (d := 1) ⟨fun _ => rfl, ff.2.trans t2, h3, f2.trans ff.1⟩
  refine sg_97_80 (d := 1) (pk_eq (mGo A) 0 (fun q0 => ⟨ax_kd h.1.1, ?_⟩) (fun q0 => ⟨ax_kd h.1.1, last false ?_⟩))
  · rw [r3, ck, v3, bit_nI (by omega) (by omega)]
    refine ⟨i3, fun u => ⟨ax_kd h.1.1, ax_use0 (ct_96 h hI b1 b2 b3) rfl ?_⟩, fun u => ⟨ax_kd h.1.1, last false ?_⟩⟩
    · refine sg_97_102 (d := 1) (pk_lt 1 (mJobs A k) (fun w => ⟨ax_kd h.1.1, last true ?_⟩) (fun w => ⟨ax_kd h.1.1, last false ?_⟩) rfl rfl (by decide) (by unfold mJobs; omega))
      · unfold excB; rw [q0, bit_zero.mp u, Nat.blt_eq.mpr w]; rfl
      · unfold excB; rw [not_true_b (fun v => absurd (Nat.blt_eq.mp v) (by omega)), Bool.and_false]
    · unfold excB; rw [not_false_b (fun t => u (bit_zero.mpr t)), Bool.not_true, Bool.and_false]; rfl
  · unfold excB; rw [nb_ne q0]; rfl
end
end AXMX
