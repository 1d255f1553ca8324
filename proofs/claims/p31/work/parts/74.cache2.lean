/-! The class: a stage is set; the cache is looked up and filled. -/
section AXRO
theorem mFnd_0 (A : MS) (r k l : Nat) : ∀ t, (mFnd A r k l t).1 = 0 → (mFnd A r k l t).2 = 1 := by
  intro t
  induction t with
  | zero => intro _; rfl
  | succ t ih =>
    have e : mFnd A r k l (t + 1) = bif Nat.ble (mFnd A r k l t).2 (mNe A r k l t) then (t + 1, mNe A r k l t) else mFnd A r k l t := rfl
    rw [e]
    cases Nat.ble (mFnd A r k l t).2 (mNe A r k l t) with
    | false => exact ih
    | true => intro z; exact absurd z (Nat.succ_ne_zero t)
theorem mNe_le (A : MS) (r k l t : Nat) : mNe A r k l t ≤ l := by
  unfold mNe
  cases Nat.beq ((mE A).getD t (0, 0)).1 k
  · exact Nat.zero_le _
  · exact mCom_le _ _ _ _
/-- what a lookup answers, and the entries after it -/
def resV (A : MS) (r k : Nat) : Int32 := bif Nat.beq (mS A 6 k) 0 then -1 else nI (bif Nat.beq (mFn A r k).1 0 then 0 else (mFn A r k).2)
def resE (A : MS) (r k : Nat) : MS := bif Nat.beq (mS A 6 k) 0 then A else (A.1, mQ A, bif Nat.beq (mFn A r k).1 0 then mE A else mRot (mE A) ((mFn A r k).1 - 1))
section
variable {e0 mo : Nat} {σ σ' σ1 : SG} {x : Nat} {L : LY} {A A' : MS} {r k j p w : Nat}
theorem in02_ck {y : Int32} (a : ¬ y < 0) (b : ¬ (2 : Int32) < y) : in02 y = true := decide_eq_true ⟨Int32.not_lt.mp a, Int32.not_lt.mp b⟩
theorem in03_ck {y : Int32} (a : ¬ y < 0) (b : ¬ (3 : Int32) < y) : in03 y = true := decide_eq_true ⟨Int32.not_lt.mp a, Int32.not_lt.mp b⟩
theorem ct_36 (h : ax_rc e0 σ x L A) (hJJ : mJJ A) (u y z : Int32) : ax_wp e0 mo 7 36 (0, ax_entry 36 [aR x, aI u, aI y, aI z], []) σ (cl_po e0 σ x L [0, 1, 2] (oSetStage A u y z)) := by
  obtain ⟨f0, f1, f2, f3, f4, f5, f6, f7, f8⟩ := xf h
  obtain ⟨hb, hf, hx, hge⟩ := rc_hb h
  have hI := hJJ.1.1
  have hN := hI.1.1
  have hE := hJJ.2.2.2.2.2.1
  unfold oSetStage
  refine sg_36_0 (d := 6) ⟨ax_kd f0, ck_use (ct_61 h hI u) rfl (fun q e1 hq => ?_) (fun e => ?_)⟩
  · subst hq
    rw [e1]
    obtain ⟨k, hk, rfl⟩ := inB_yes e1 (by omega)
    have ck : (nI k).toNatClampNeg = k := nI_clamp (by omega)
    rw [ck]
    obtain ⟨s1, s2⟩ := sg_at h hk
    have no : ∀ o : OC, o = ((2, 0), A) → cl_po e0 σ x L [0, 1, 2] o (.inr 1) (thrC σ) := fun o e => by
      subst e; exact ⟨Nat.le_succ 1, rfl, rfl⟩
    refine sg_36_5 (d := 6) ⟨fun a => ⟨by decide, no _ ?_⟩, fun a => ⟨fun b => ⟨by decide, no _ ?_⟩, fun b => ⟨fun c => ⟨by decide, no _ ?_⟩, fun c => ⟨fun d => ⟨by decide, no _ ?_⟩, fun d => ⟨ax_kd f0, ?_⟩⟩⟩⟩⟩
    · rw [show in02 y = false from decide_eq_false (fun q => absurd a (Int32.not_lt.mpr q.1))]; rfl
    · rw [show in02 y = false from decide_eq_false (fun q => absurd b (Int32.not_lt.mpr q.2))]; rfl
    · rw [show in03 z = false from decide_eq_false (fun q => absurd c (Int32.not_lt.mpr q.1)), Bool.and_false]; rfl
    · rw [show in03 z = false from decide_eq_false (fun q => absurd d (Int32.not_lt.mpr q.2)), Bool.and_false]; rfl
    have e2 := in02_ck a b
    have e3 := in03_ck c d
    rw [e2, e3]
    obtain ⟨y, hy, rfl⟩ := in02_yes e2
    obtain ⟨z, hz, rfl⟩ := in03_yes e3
    have cy : (nI y).toNatClampNeg = y := nI_clamp (by omega)
    have cz : (nI z).toNatClampNeg = z := nI_clamp (by omega)
    rw [cy, cz]
    refine ck_use (ct_69 h hI) rfl (fun q e4 hq => ?_) (fun e => ?_)
    · subst hq
      rw [e4]
      have h63 : mS A 6 k ≤ 3 := (hI.2.2.1 k).2.1
      have hF1 : ax_F (rcSW L A) σ (putI (putI σ 5 5 (gS L k) (nI y)) 5 6 (gS L k) (nI z)) := ((ax_F.refl _ _).putI fun _ => Or.inl ⟨rfl, k, hk, rfl⟩).putI fun _ => Or.inl ⟨rfl, k, hk, rfl⟩
      have fr1 : cl_fr σ L (putI (putI σ 5 5 (gS L k) (nI y)) 5 6 (gS L k) (nI z)) L 0 0 := fr_I (fr_I (fr_refl σ L) (by decide)) (by decide)
      -- the stages, in a heap that has them so
      have stg : ∀ σ2, ax_F (fun k' _ q => (k' = 8 ∧ q = lF L 5) ∨ (k' = 23 ∧ q = lF L 9)) (putI (putI σ 5 5 (gS L k) (nI y)) 5 6 (gS L k) (nI z)) σ2 → rcS σ2 L (mSetS A k y z) := fun σ2 hF2 k' hk' => by
        have hk' : k' < mN A := hk'
        obtain ⟨t1, t2, t3⟩ := h.2.2.1 k' hk'
        have n5 : ¬ (((5 : Nat) = 8 ∧ gS L k' = lF L 5) ∨ ((5 : Nat) = 23 ∧ gS L k' = lF L 9)) := fun z => by rcases z with z | z <;> exact absurd z.1 (by decide)
        refine ⟨by rw [hF2.2.2.1 _ (hb _ _ _ _)]; exact t1, ?_, fun f a b => ?_⟩
        · rw [(hF2.2.2.2 5 0 _ (hb _ _ _ _) n5).1, gI_putI, if_neg (fun z => by omega), gI_putI, if_neg (fun z => by omega)]; exact t2
        · rw [(hF2.2.2.2 5 f _ (hb _ _ _ _) n5).1, gI_putI, gI_putI, show mS (mSetS A k y z) f k' = mS (mUp (mUp A 5 k 0 0 y) 6 k 0 0 z) f k' from rfl, mS_up, mS_up]
          by_cases c6 : f = 6 ∧ k' = k
          · rw [if_pos c6, if_pos ⟨rfl, c6.1, by rw [c6.2]⟩]
          · rw [if_neg c6, if_neg (fun w => c6 ⟨w.2.1, gS_inj h hN hk' hk w.2.2⟩)]
            by_cases c5 : f = 5 ∧ k' = k
            · rw [if_pos c5, if_pos ⟨rfl, c5.1, by rw [c5.2]⟩]
            · rw [if_neg c5, if_neg (fun w => c5 ⟨w.2.1, gS_inj h hN hk' hk w.2.2⟩)]
              exact t3 f a b
      have hA : ∀ f r k' j, f = 0 ∨ 10 ≤ f → (mSetS A k y z).1 f r k' j = A.1 f r k' j := fun f r k' j a => (mUp_f _ (by omega) r k' j).trans (mUp_f A (by omega) r k' j)
      have n1 : ∀ (k' i q : Nat), k' ≠ 5 → k' ≠ 8 → k' ≠ 23 → ¬ rcSW L A k' i q := fun k' i q a b c => rcSW_no a b c
      have e6 : ∀ k', k' ≠ k ∨ z = mS A 6 k → mS (mSetS A k y z) 6 k' = mS A 6 k' := fun k' a => by
        rw [show mS (mSetS A k y z) 6 k' = mS (mUp (mUp A 5 k 0 0 y) 6 k 0 0 z) 6 k' from rfl, mS_up, mS_up]
        by_cases c : (6 : Nat) = 6 ∧ k' = k
        · rw [if_pos c, c.2]
          rcases a with a | a
          · exact absurd c.2 a
          · exact a
        · rw [if_neg c, if_neg (show ¬ ((6 : Nat) = 5 ∧ k' = k) from fun w => absurd w.1 (by decide))]
      refine sg_36_39 (d := 6) ⟨ax_kd s1, ?_⟩
      rw [s2 6 (by decide) (by decide)]
      refine pk_eq z (mS A 6 k) (fun q => ⟨ax_kd s1, ax_kd s1, fun _ => ?_, fun w => absurd rfl w⟩) (fun q => ⟨ax_kd s1, ax_kd s1, fun w => absurd w (by decide), fun _ => ⟨ax_kd f0, ?_⟩⟩)
      · have eE : mE (mSetS A k y z) = mE A := by show (bif Nat.beq z (mS A 6 k) then mE A else mDrop A k) = _; rw [nb_eq q]; rfl
        refine ⟨rfl, ?_, L, ?_, fr_le fr1 (by decide) (by decide)⟩
        · show _ = aI (nI ((mE A).length - (mE (mSetS A k y z)).length))
          rw [eE, Nat.sub_self]; rfl
        · have := rc_set (A' := mSetS A k y z) (el := lF L 9) (cap := lC L 3) (g := gE L) h hF1 hA rfl (stg _ (ax_F.refl _ _)) (by rw [eE]; exact h.2.1.2.2.2.1) (Or.inl ⟨rfl, rfl⟩) (fun i hi => ?_)
          · rw [lEn_id] at this
            exact this
          · rw [eE] at hi
            rw [eE, e6 _ (Or.inr q)]
            exact ⟨hge i hi, rcE1_F (h.2.2.2.2.2.2.2.1 i hi) hF1 (hge i hi) (fun i => n1 1 i _ (by decide) (by decide) (by decide)) (fun i q _ => n1 20 i q (by decide) (by decide) (by decide))⟩
      · have x6 : sgR (putI (putI σ 5 5 (gS L k) (nI y)) 5 6 (gS L k) (nI z)) 6 4 x = lF L 4 := f5
        rw [f5]
        have hl5 : ax_li (putI (putI σ 5 5 (gS L k) (nI y)) 5 6 (gS L k) (nI z)) (lF L 5) (lF L 9) (lC L 3) (mE A).length (gE L) := h.2.1.2.2.2.1
        have hent : ∀ i, i < (mE A).length → sgK (putI (putI σ 5 5 (gS L k) (nI y)) 5 6 (gS L k) (nI z)) (gE L i) = (1, 3) ∧ gE L i < sgZ σ ∧ sgI (putI (putI σ 5 5 (gS L k) (nI y)) 5 6 (gS L k) (nI z)) 1 0 (gE L i) = nI ((mE A).getD i (0, 0)).1 ∧ ((mE A).getD i (0, 0)).1 < 8 := fun i hi => by
          obtain ⟨t1, t2, t3, t4⟩ := h.2.2.2.2.2.2.2.1 i hi
          have := (hE.2 _ (mE_at hi)).1
          exact ⟨t1, hge i hi, t2, by omega⟩
        refine ⟨ax_kd f7, ax_use (ct_3 (st := fun i => ((mE A).getD i (0, 0)).1) f7 (hf 4 (by decide)) f8 hl5 (by have := hE.1; omega) hent (by omega)) rfl fun w σ2 hw => ?_⟩
        obtain ⟨rfl, g1, g2, g3, g4⟩ := hw
        have eE : mE (mSetS A k y z) = mDrop A k := by show (bif Nat.beq z (mS A 6 k) then mE A else mDrop A k) = _; rw [nb_ne q]; rfl
        have em := kp_map (es := mE A) (p := fun e => !(Nat.beq e.1 k)) (mE A).length (Nat.le_refl _)
        rw [Nat.sub_self, List.drop_zero] at em
        have el : (mE (mSetS A k y z)).length = (kp (fun i => !(Nat.beq ((mE A).getD i (0, 0)).1 k)) (mE A).length (mE A).length).length := by
          rw [eE]
          show ((mE A).filter _).length = _
          rw [← em, List.length_map]
        have ea : ∀ i, i < (kp (fun i => !(Nat.beq ((mE A).getD i (0, 0)).1 k)) (mE A).length (mE A).length).length → (mE (mSetS A k y z)).getD i (0, 0) = (mE A).getD ((kp (fun i => !(Nat.beq ((mE A).getD i (0, 0)).1 k)) (mE A).length (mE A).length).getD i 0) (0, 0) := fun i hi => by
          rw [eE]
          show ((mE A).filter _).getD i (0, 0) = _
          rw [← em, List.getD_eq_getElem?_getD, List.getElem?_map, List.getD_eq_getElem?_getD (l := kp _ _ _), List.getElem?_eq_getElem hi]
          rfl
        have hFt : ax_F (rcSW L A) σ σ2 := hF1.trans (g2.mono fun k i q _ z => Or.inr z)
        refine sg_36_80 (d := 6) ⟨rfl, ?_, lEn L (lF L 9) (lC L 3) (fun i => gE L ((kp (fun i => !(Nat.beq ((mE A).getD i (0, 0)).1 k)) (mE A).length (mE A).length).getD i 0)), ?_, ?_⟩
        · show _ = aI (nI ((mE A).length - (mE (mSetS A k y z)).length))
          rw [el]
        · refine rc_set (A' := mSetS A k y z) h hFt hA rfl (stg σ2 g2) (by rw [el]; exact g1) (Or.inl ⟨rfl, rfl⟩) fun i hi => ?_
          rw [el] at hi
          have hm := kp_mem _ (Nat.le_refl _) (getD_in hi)
          have hne : ((mE A).getD ((kp (fun i => !(Nat.beq ((mE A).getD i (0, 0)).1 k)) (mE A).length (mE A).length).getD i 0) (0, 0)).1 ≠ k := fun w => by
            have := hm.2
            rw [w, Nat.beq_refl] at this
            cases this
          rw [ea i hi, e6 _ (Or.inl hne)]
          exact ⟨Nat.lt_of_lt_of_le (hge _ hm.1) hFt.1, rcE1_F (h.2.2.2.2.2.2.2.1 _ hm.1) hFt (hge _ hm.1) (fun i => n1 1 i _ (by decide) (by decide) (by decide)) (fun i q _ => n1 20 i q (by decide) (by decide) (by decide))⟩
        · refine ⟨(fr1.1).trans (g2.mono fun k i q _ z => ?_), ?_, ?_⟩
          · rcases z with z | z
            · rw [z.1]; exact ⟨by decide, by decide, by decide, by decide, by decide⟩
            · rw [z.1]; exact ⟨by decide, by decide, by decide, by decide, by decide⟩
          · have a1 : sgZ σ2 = sgZ σ := g3
            show sgZ σ2 + lRho L ≤ sgZ σ + lRho L + 390
            omega
          · have a1 : sgU σ2 = sgU σ := g4
            show sgU σ2 + 4 * lRho L ≤ sgU σ + 4 * lRho L + 6000
            omega
    · rw [e]
      exact ⟨Nat.succ_le_succ (Nat.zero_le 2), rfl, rfl⟩
  · rw [e]
    exact ⟨Nat.le_refl 1, rfl, rfl⟩
end
end AXRO
