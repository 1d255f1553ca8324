/-! The reference's setStage. -/
section AXMY
theorem filte_take {k : Nat} {q : List (Nat × Nat)} {i : Nat} (hi : i < q.length) : (q.take (i + 1)).filter (fun e => !(Nat.beq e.1 k)) = (q.take i).filter (fun e => !(Nat.beq e.1 k)) ++ (if (q.getD i (0, 0)).1 = k then [] else [q.getD i (0, 0)]) := by
  have e : q.getD i (0, 0) = q[i] := by rw [List.getD_eq_getElem?_getD, List.getElem?_eq_getElem hi]; rfl
  rw [List.take_add_one, List.getElem?_eq_getElem hi, List.filter_append, e]
  congr 1
  by_cases z : q[i].1 = k
  · rw [if_pos z]
    simp [z, Nat.beq_refl]
  · rw [if_neg z]
    simp [nb_ne z]
theorem filte_le {k : Nat} {q : List (Nat × Nat)} (i : Nat) : ((q.take i).filter (fun e => !(Nat.beq e.1 k))).length ≤ i := Nat.le_trans (List.length_filter_le _ _) (by rw [List.length_take]; omega)
theorem getDe_snoc (F : List (Nat × Nat)) (y : Nat × Nat) : (F ++ [y]).getD F.length (0, 0) = y := by
  rw [List.getD_eq_getElem?_getD, List.getElem?_append_right (Nat.le_refl _), Nat.sub_self]
  rfl
theorem getDe_app {F : List (Nat × Nat)} {y : Nat × Nat} {x : Nat} (h : x < F.length) : (F ++ [y]).getD x (0, 0) = F.getD x (0, 0) := by
  rw [List.getD_eq_getElem?_getD, List.getElem?_append_left h, ← List.getD_eq_getElem?_getD]
theorem in02_yes {x : Int32} (h : in02 x = true) : ∃ n, n ≤ 2 ∧ x = nI n := by
  obtain ⟨i, hi, rfl⟩ := inB_yes (n := 3) (x := x) h (by decide)
  exact ⟨i, by omega, rfl⟩
theorem in03_yes {x : Int32} (h : in03 x = true) : ∃ n, n ≤ 3 ∧ x = nI n := by
  obtain ⟨i, hi, rfl⟩ := inB_yes (n := 4) (x := x) h (by decide)
  exact ⟨i, by omega, rfl⟩
section
variable {e0 mo : Nat} {σ σ1 : SG} {m : Nat} {M : Nat → Nat} {A : MS} {r k j p w : Nat}
theorem ct_98 (h : ax_rm σ m M A) (hJ : mJJ A) (x y z : Int32) : ax_ok e0 mo 2 98 [aR m, aI x, aI y, aI z] σ (rf_an m M σ (oSetStage A x y z)) := by
  have hI := hJ.1.1
  have hE := hJ.2.2.2.2.2.1
  have hl := hE.1
  have hN := hI.1.1
  have hgl := mGo_le hI
  have mk : ∀ f, 1 ≤ f → f ≤ 9 → ax_mr f := fun f a b => mr_of (by omega) (by omega) (by omega) (by omega)
  have h21 : ax_mr 21 := mr_of (by decide) (by decide) (by decide) (by decide)
  unfold oSetStage
  have mid : ∀ b : Bool, b = (in02 y && in03 z) → ax_wp e0 mo 2 98 (33, [aR m, aI x, aI y, aI z, aU, aU], [aI (nI (mGo A)), aI (bI b), aI (bI (inB x (mN A))), aR m]) σ (ax_ct (rf_an m M σ (bif inB x (mN A) then (bif in02 y && in03 z then (bif Nat.beq (mGo A) 0 then ((0, nI ((mE A).length - (mE (mSetS A x.toNatClampNeg y.toNatClampNeg z.toNatClampNeg)).length)), mSetS A x.toNatClampNeg y.toNatClampNeg z.toNatClampNeg) else ((3, 0), A)) else ((2, 0), A)) else ((1, 0), A))) (fun _ _ => False)) := fun b hb => by
    rw [← hb]
    have last : ∀ c : Bool, c = Nat.beq (mGo A) 0 → ax_wp e0 mo 1 88 (0, ax_entry 88 [aR m, aI (bI (inB x (mN A))), aI (bI b), aI (bI c)], []) σ (ax_ct (fun v σ3 => ax_wp e0 mo 2 98 (44, [aR m, aI x, aI y, aI z, aU, aU], ax_push v []) σ3 (ax_ct (rf_an m M σ (bif inB x (mN A) then (bif b then (bif Nat.beq (mGo A) 0 then ((0, nI ((mE A).length - (mE (mSetS A x.toNatClampNeg y.toNatClampNeg z.toNatClampNeg)).length)), mSetS A x.toNatClampNeg y.toNatClampNeg z.toNatClampNeg) else ((3, 0), A)) else ((2, 0), A)) else ((1, 0), A))) (fun _ _ => False))) (fun E σ3 => ax_exc 98 41 (ax_ct (rf_an m M σ (bif inB x (mN A) then (bif b then (bif Nat.beq (mGo A) 0 then ((0, nI ((mE A).length - (mE (mSetS A x.toNatClampNeg y.toNatClampNeg z.toNatClampNeg)).length)), mSetS A x.toNatClampNeg y.toNatClampNeg z.toNatClampNeg) else ((3, 0), A)) else ((2, 0), A)) else ((1, 0), A))) (fun _ _ => False)) E σ3)) := fun c hc => by
      rw [← hc]
      refine ax_use (as_88 h (inB x (mN A)) b c) rfl fun w σ2 hw => ?_
      obtain ⟨rfl, h2, f2, t2⟩ := hw
      cases e : inB x (mN A) with
      | false =>
        rw [e] at t2
        exact sg_98_44 (d := 1) ⟨fun _ => ⟨fun z => (Nat.one_ne_zero z).elim, t2, h2, f2⟩, fun z => absurd rfl z⟩
      | true =>
        rw [e] at t2
        cases b with
        | false => exact sg_98_44 (d := 1) ⟨fun _ => ⟨fun z => (Nat.succ_ne_zero 1 z).elim, t2, h2, f2⟩, fun z => absurd rfl z⟩
        | true =>
          cases c with
          | false => exact sg_98_44 (d := 1) ⟨fun _ => ⟨fun z => (Nat.succ_ne_zero 2 z).elim, t2, h2, f2⟩, fun z => absurd rfl z⟩
          | true =>
            have hb := hb.symm
            rw [Bool.and_eq_true] at hb
            obtain ⟨k, hk, rfl⟩ := inB_yes e (by omega)
            obtain ⟨a, ha, rfl⟩ := in02_yes hb.1
            obtain ⟨c, hc3, rfl⟩ := in03_yes hb.2
            have hk8 : k < 8 := by omega
            have ck : (nI k).toNatClampNeg = k := nI_clamp (by omega)
            have ca : (nI a).toNatClampNeg = a := nI_clamp (by omega)
            have cc : (nI c).toNatClampNeg = c := nI_clamp (by omega)
            have h63 := (hI.2.2.1 k).2.1
            obtain ⟨r5, i5, -, -⟩ := rm_st h2 (f := 5) (by decide) (by decide) hk8
            obtain ⟨r6, i6, -, v6⟩ := rm_st h2 (f := 6) (by decide) (by decide) hk8
            have v6 : sgI σ2 20 k (M 6) = nI (mS A 6 k) := v6
            refine sg_98_44 (d := 1) ⟨fun z => absurd z (by decide), fun _ => ⟨ax_kd h2.1.1, ax_kd h2.1.1, ?_⟩⟩
            rw [ck, ca, cc, r6, v6, r5, h2.2.1.2.2.2]
            refine ⟨i6, pk_eq c (mS A 6 k) (fun q => ⟨ax_kd h2.1.1, i5, ax_kd h2.1.1, i6, ax_kd h2.1.1, ?_⟩) (fun q => ⟨ax_kd h2.1.1, ?_⟩)⟩
            · have ff := ((ax_mf.refl m M σ2).row (mk 5 (by decide) (by decide)) (nI a) (Or.inl rfl) (i := k)).row (mk 6 (by decide) (by decide)) (nI c) (Or.inl rfl) (i := k)
              have st := rm_st1 (rm_st1 h2 (f := 5) (x := k) (by decide) (by decide) (v := nI a) rfl (q := 20) rfl) (f := 6) (x := k) (by decide) (by decide) (v := nI c) rfl (q := 20) rfl
              have eE : mE (mSetS A k a c) = mE A := by
                show (bif Nat.beq c (mS A 6 k) then mE A else mDrop A k) = _
                rw [q, Nat.beq_refl]; rfl
              have eA : mSetS A k a c = mUp (mUp A 5 k 0 0 a) 6 k 0 0 c := Prod.ext rfl (Prod.ext rfl eE)
              refine ⟨fun _ => ?_, ff.2.trans t2, ?_, f2.trans ff.1⟩
              · show aI (nI (mE A).length - nI (mE A).length) = aI (nI ((mE A).length - (mE (mSetS A k a c)).length))
                rw [eE, pk_sub (Nat.le_refl _)]
              · show ax_rm _ m M (mSetS A k a c)
                rw [eA]; exact st
            · have hc1 : ∀ x, x < (mE A).length → sgI σ2 20 x (M 21) = nI (mCe ((mE A).getD x (0, 0))) := fun x hx => rm_ent h2 hx
              have eE : mE (mSetS A k a c) = mDrop A k := by
                show (bif Nat.beq c (mS A 6 k) then mE A else mDrop A k) = _
                rw [nb_ne q]; rfl
              refine ax_down (N := (mE A).length) (fun i => ∀ σ1, ax_but σ2 σ1 m M 21 22 → ax_mf m M σ2 σ1 → sgI σ1 7 22 m = nI (((mE A).take i).filter (fun e => !(Nat.beq e.1 k))).length → (∀ x, x < (((mE A).take i).filter (fun e => !(Nat.beq e.1 k))).length → sgI σ1 20 x (M 21) = nI (mCe ((((mE A).take i).filter (fun e => !(Nat.beq e.1 k))).getD x (0, 0)))) → (∀ x, i ≤ x → x < (mE A).length → sgI σ1 20 x (M 21) = nI (mCe ((mE A).getD x (0, 0)))) → ax_wp e0 mo 2 98 (73, [aR m, aI (nI k), aI (nI a), aI (nI c), aI (nI (mE A).length), aI (nI i)], []) σ1 _) ?_ (fun i hi ih => ?_) 0 (Nat.zero_le _) _ (ax_but.refl σ2 m M 21 22).num ((ax_mf.refl m M σ2).num _) (if_pos ⟨rfl, rfl, rfl⟩) (fun x hx => absurd hx (Nat.not_lt_zero x)) (fun x _ hx => by rw [gI_putI, if_neg (show ¬ (20 = 7 ∧ x = 22 ∧ M 21 = m) from fun z => absurd z.1 (by decide))]; exact hc1 x hx)
              · intro σ1 b1 f1 l1 c1 c2
                rw [List.take_length] at l1 c1
                have h3 : ax_rm σ1 m M (A.1, A.2.1, mDrop A k) := rm_en h2 b1 l1 c1
                have r5 := rm_stR h3 (f := 5) (by decide) (by decide)
                have r6 := rm_stR h3 (f := 6) (by decide) (by decide)
                have i5 := (rm_st h3 (f := 5) (by decide) (by decide) hk8).2.1
                have i6 := (rm_st h3 (f := 6) (by decide) (by decide) hk8).2.1
                refine sg_98_73 (d := 1) ⟨fun z => absurd z (nI_nlt (Nat.le_refl _) (by omega)), fun _ => ⟨ax_kd h3.1.1, ?_⟩⟩
                rw [ck, r5, r6, l1]
                have ff := (f1.row (mk 5 (by decide) (by decide)) (nI a) (Or.inl rfl) (i := k)).row (mk 6 (by decide) (by decide)) (nI c) (Or.inl rfl) (i := k)
                have st := rm_st1 (rm_st1 h3 (f := 5) (x := k) (by decide) (by decide) (v := nI a) rfl (q := 20) rfl) (f := 6) (x := k) (by decide) (by decide) (v := nI c) rfl (q := 20) rfl
                refine ⟨i5, ax_kd h3.1.1, i6, ax_kd h3.1.1, fun _ => ?_, ff.2.trans t2, ?_, f2.trans ff.1⟩
                · show aI (nI (mE A).length - nI (mDrop A k).length) = aI (nI ((mE A).length - (mE (mSetS A k a c)).length))
                  rw [eE, pk_sub (show (mDrop A k).length ≤ (mE A).length from List.length_filter_le _ _)]
                · show ax_rm _ m M (mSetS A k a c)
                  have eA : mSetS A k a c = mUp (mUp (A.1, A.2.1, mDrop A k) 5 k 0 0 a) 6 k 0 0 c := Prod.ext rfl (Prod.ext rfl eE)
                  rw [eA]; exact st
              · intro σ1 b1 f1 l1 c1 c2
                have s1 := b1.shape h2.1
                obtain ⟨g1, g2⟩ := s1.2.1 21 h21
                have hle := filte_le (k := k) (q := mE A) i
                obtain ⟨d1, d2, d3, d4, d5⟩ := mE_bd hE hI (mE_at hi)
                have i1 : ax_in σ1 20 (M 21) (nI i) := ax_in_nI (n := 11) g2 (by omega) (by decide)
                have i2 : ax_in σ1 20 (M 21) (nI (((mE A).take i).filter (fun e => !(Nat.beq e.1 k))).length) := ax_in_nI (n := 11) g2 (by omega) (by decide)
                have k1 : (nI i).toNatClampNeg = i := nI_clamp (by omega)
                have k2 : (nI (((mE A).take i).filter (fun e => !(Nat.beq e.1 k))).length).toNatClampNeg = (((mE A).take i).filter (fun e => !(Nat.beq e.1 k))).length := nI_clamp (by omega)
                refine sg_98_73 (d := 1) ⟨fun _ => ⟨ax_kd s1.1, ax_kd s1.1, ax_kd s1.1, ?_⟩, fun z => absurd (nI_lt hi (by omega)) z⟩
                have hv : sgI (putI σ1 20 (((mE A).take i).filter (fun e => !(Nat.beq e.1 k))).length (M 21) (nI (mCe ((mE A).getD i (0, 0))))) 20 i (M 21) = nI (mCe ((mE A).getD i (0, 0))) := by
                  rw [gI_putI]
                  split
                  · rfl
                  · exact c2 i (Nat.le_refl _) hi
                rw [l1, g1, k1, k2, c2 i (Nat.le_refl _) hi, hv, show (10 : Int32) = nI 10 from rfl, pk_rem (by omega) (by decide) (by decide), d4, nI_1, nI_1]
                have b2 := (b1.put (i := (((mE A).take i).filter (fun e => !(Nat.beq e.1 k))).length) (v := nI (mCe ((mE A).getD i (0, 0)))))
                have f3 := f1.row (i := (((mE A).take i).filter (fun e => !(Nat.beq e.1 k))).length) h21 (nI (mCe ((mE A).getD i (0, 0)))) (Or.inl rfl)
                have ih2 := fun v => ih _ (b2.num (v := v)) (f3.num v)
                rw [filte_take hi] at ih2
                have c4 : ∀ v x, i + 1 ≤ x → x < (mE A).length → sgI (putI (putI σ1 20 (((mE A).take i).filter (fun e => !(Nat.beq e.1 k))).length (M 21) (nI (mCe ((mE A).getD i (0, 0))))) 7 22 m v) 20 x (M 21) = nI (mCe ((mE A).getD x (0, 0))) := fun v x aa bb => by
                  rw [gI_putI, if_neg (show ¬ (20 = 7 ∧ x = 22 ∧ M 21 = m) from fun z => absurd z.1 (by decide)), gI_putI, if_neg (show ¬ (20 = 20 ∧ x = (((mE A).take i).filter (fun e => !(Nat.beq e.1 k))).length ∧ M 21 = M 21) from fun z => by omega)]
                  exact c2 x (by omega) bb
                refine ⟨i1, i2, ax_kd s1.1, ax_kd s1.1, i1, by decide, pk_eq ((mE A).getD i (0, 0)).1 k (fun z => ⟨ax_kd s1.1, ?_⟩) (fun z => ⟨ax_kd s1.1, ?_⟩)⟩
                · rw [if_pos z, List.append_nil] at ih2
                  rw [show nI (((mE A).take i).filter (fun e => !(Nat.beq e.1 k))).length + 0 = nI (((mE A).take i).filter (fun e => !(Nat.beq e.1 k))).length from nI_add _ 0]
                  refine ih2 _ (if_pos ⟨rfl, rfl, rfl⟩) (fun x aa => ?_) (c4 _)
                  rw [gI_putI, if_neg (show ¬ (20 = 7 ∧ x = 22 ∧ M 21 = m) from fun z => absurd z.1 (by decide)), gI_putI, if_neg (show ¬ (20 = 20 ∧ x = (((mE A).take i).filter (fun e => !(Nat.beq e.1 k))).length ∧ M 21 = M 21) from fun z => by omega)]
                  exact c1 x aa
                · rw [if_neg z, List.length_append] at ih2
                  refine ih2 _ (if_pos ⟨rfl, rfl, rfl⟩) (fun x aa => ?_) (c4 _)
                  have aa : x < (((mE A).take i).filter (fun e => !(Nat.beq e.1 k))).length + 1 := aa
                  rw [gI_putI, if_neg (show ¬ (20 = 7 ∧ x = 22 ∧ M 21 = m) from fun z => absurd z.1 (by decide)), gI_putI]
                  by_cases w : x = (((mE A).take i).filter (fun e => !(Nat.beq e.1 k))).length
                  · rw [if_pos ⟨rfl, w, rfl⟩, w, getDe_snoc]
                  · rw [if_neg (show ¬ (20 = 20 ∧ x = (((mE A).take i).filter (fun e => !(Nat.beq e.1 k))).length ∧ M 21 = M 21) from fun z => w z.2.1), getDe_app (by omega)]
                    exact c1 x (by omega)
    refine sg_98_33 (d := 1) (pk_eq (mGo A) 0 (fun z => ⟨ax_kd h.1.1, last true ?_⟩) (fun z => ⟨ax_kd h.1.1, last false ?_⟩))
    · rw [z]; rfl
    · rw [nb_ne z]
  refine sg_98_0 (d := 1) ⟨ax_kd h.1.1, ?_⟩
  refine ax_use0 (ct_90 h x) rfl ?_
  refine sg_98_6 (d := 1) ?_
  refine ax_use0 (ct_85 _ _ _) rfl ?_
  refine sg_98_12 (d := 1) ⟨fun q => ⟨ax_kd h.1.1, ax_use0 (ct_91 h hI) rfl (mid false ?_)⟩, fun q => ?_⟩
  · rw [show in02 y = false from bI0 q]; rfl
  · refine ax_use0 (ct_85 _ _ _) rfl ?_
    refine sg_98_21 (d := 1) ⟨fun q2 => ⟨ax_kd h.1.1, ax_use0 (ct_91 h hI) rfl (mid false ?_)⟩, fun q2 => ⟨ax_kd h.1.1, ax_use0 (ct_91 h hI) rfl (mid true ?_)⟩⟩
    · rw [show in03 z = false from bI0 q2, Bool.and_false]
    · rw [show in02 y = true from bI1 q, show in03 z = true from bI1 q2]; rfl
end
end AXMY
