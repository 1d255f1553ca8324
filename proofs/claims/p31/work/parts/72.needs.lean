/-! The class: needs, exclusions, marks. -/
section AXRM
section
variable {e0 mo : Nat} {σ σ' σ1 : SG} {x : Nat} {L : LY} {A A' : MS} {r k j p w : Nat}
theorem sg_at (h : ax_rc e0 σ x L A) (hk : k < mN A) : sgK σ (gS L k) = (5, 10) ∧ ∀ f, 1 ≤ f → f ≤ 9 → sgI σ 5 f (gS L k) = nI (mS A f k) := ⟨(h.2.2.1 k hk).1, (h.2.2.1 k hk).2.2⟩
theorem ct_34 (h : ax_rc e0 σ x L A) (hJJ : mJJ A) (u v : Int32) : ax_wp e0 mo 7 34 (0, ax_entry 34 [aR x, aI u, aI v], []) σ (cl_po e0 σ x L [0, 2] (oNeed A u v)) := by
  obtain ⟨f0, f1, f2, f3, f4, f5, f6, f7, f8⟩ := xf h
  have hI := hJJ.1.1
  have hN := hI.1.1
  unfold oNeed
  refine sg_34_0 (d := 6) ⟨ax_kd f0, ck_use (ct_61 h hI u) rfl (fun q e1 hq => ?_) (fun e => ?_)⟩
  · subst hq
    refine sg_34_5 (d := 6) ⟨ax_kd f0, ck_use (ct_61 h hI v) rfl (fun q e2 hq => ?_) (fun e => ?_)⟩
    · subst hq
      rw [e1, e2]
      obtain ⟨k, hk, rfl⟩ := inB_yes e1 (by omega)
      obtain ⟨o, ho, rfl⟩ := inB_yes e2 (by omega)
      have ck : (nI k).toNatClampNeg = k := nI_clamp (by omega)
      have co : (nI o).toNatClampNeg = o := nI_clamp (by omega)
      rw [ck, co]
      obtain ⟨s1, s2⟩ := sg_at h hk
      obtain ⟨t1, t2⟩ := sg_at h ho
      have hb4 := mB_needs hI
      have hk4 := hb4 k hk
      have thr : needB A k o = false → cl_po e0 σ x L [0, 2] (bif true && true then (bif needB A k o then ((0, nI (ax_bc (mS A 4 k ||| 2 ^ o) 16)), mNeed A k o) else ((2, 0), A)) else ((1, 0), A)) (.inr 2) (thrC σ) := fun e => by
        rw [e]; exact ⟨Nat.le_succ 1, rfl, rfl⟩
      refine sg_34_11 (d := 6) ⟨ax_kd f0, ck_use (ct_69 h hI) rfl (fun q e3 hq => ?_) (fun e => ?_)⟩
      · subst hq
        refine sg_34_17 (d := 6) (pk_eq k o (fun z => ⟨by decide, thr ?_⟩) (fun z => ⟨ax_kd s1, ax_use0 (ct_31 s1 (s2 4 (by decide) (by decide)) (by omega) (by omega)) rfl ?_⟩))
        · unfold needB; rw [z, Nat.beq_refl, Bool.not_true, Bool.and_false]; rfl
        · refine sg_34_27 (d := 6) ⟨fun c => ⟨ax_kd f0, ax_use0 (ct_72 h hI t1 (t2 4 (by decide) (by decide)) (hb4 o ho) (by omega)) rfl ?_⟩, fun c => ⟨by decide, thr ?_⟩⟩
          · have eT : mTurn A (mS A 4 o) 8 = mTurn A (mS A 4 o) (mN A) := by
              have := mTurn_end (A := A) (N := mN A) (fun i hi => (hI.2.1 i hi).2.2.2) (a := mS A 4 o) (hI.2.1 o ho).2.2.2 (8 - mN A)
              rw [show mN A + (8 - mN A) = 8 by omega] at this
              exact this
            rw [← eT]
            refine sg_34_37 (d := 6) ⟨fun y => ?_, fun y => ⟨by decide, thr ?_⟩⟩
            · have eB : needB A k o = true := by unfold needB; rw [e3, nb_ne z, bI0 c, bI0 y]; rfl
              rw [eB, s2 4 (by decide) (by decide), one_shl o (by omega), ax_orI, show sgI (putI σ 5 4 (gS L k) (nI (mS A 4 k ||| 2 ^ o))) 5 4 (gS L k) = nI (mS A 4 k ||| 2 ^ o) from if_pos ⟨rfl, rfl, rfl⟩]
              have hlt : mS A 4 k ||| 2 ^ o < 2 ^ 8 := Nat.or_lt_two_pow (hb4 k hk) (Nat.pow_lt_pow_right (by decide) (by omega))
              refine ⟨ax_kd s1, ax_kd s1, ax_kd s1, ax_use0 (ct_151 (by omega)) rfl ?_⟩
              exact sg_34_69 (d := 6) ⟨rfl, rfl, L, rc_stg h hN hk (by decide) (by decide) (by decide) rfl, fr_le (fr_I (fr_refl σ L) (by decide)) (by decide) (by decide)⟩
            · unfold needB; rw [bI1 y, Bool.not_true, Bool.and_false]
          · unfold needB; rw [bI1 c, Bool.not_true, Bool.and_false]; rfl
      · refine thr ?_
        unfold needB; rw [e]; rfl
    · rw [e, Bool.and_false]
      exact ⟨Nat.le_refl 1, rfl, rfl⟩
  · rw [e]
    exact ⟨Nat.le_refl 1, rfl, rfl⟩
theorem shl16 : ∀ t, t < 16 → (1 : Int32) <<< (nI t &&& 31) = nI (2 ^ t) := by decide +kernel
/-- the post of a call that gives nothing -/
def cl_pu (e0 : Nat) (σ : SG) (x : Nat) (L : LY) (X : List Nat) (o : OC) : Res → SG → Prop := ax_ct (fun v σ2 => o.1.1 = 0 ∧ v = aU ∧ ∃ L', ax_rc e0 σ2 x L' o.2 ∧ cl_fr σ L σ2 L' 390 6000) (fun E σ2 => 1 ≤ o.1.1 ∧ E = X.getD (o.1.1 - 1) 9 ∧ σ2 = thrC σ)
theorem ct_37 (h : ax_rc e0 σ x L A) (hJJ : mJJ A) (u : Int32) (f c i : Bool) : ax_wp e0 mo 7 37 (0, ax_entry 37 [aR x, aI u, aI (bI f), aI (bI c), aI (bI i)], []) σ (cl_pu e0 σ x L [0, 2] (oSetMarks A u f c i)) := by
  have f0 := (xf h).1
  have hI := hJJ.1.1
  have hN := hI.1.1
  unfold oSetMarks
  refine sg_37_0 (d := 6) ⟨ax_kd f0, ck_use (ct_61 h hI u) rfl (fun q e1 hq => ?_) (fun e => ?_)⟩
  · subst hq
    rw [e1]
    obtain ⟨k, hk, rfl⟩ := inB_yes e1 (by omega)
    have ck : (nI k).toNatClampNeg = k := nI_clamp (by omega)
    rw [ck]
    have s1 := (sg_at h hk).1
    refine sg_37_5 (d := 6) ⟨ax_kd f0, ck_use (ct_69 h hI) rfl (fun q e3 hq => ?_) (fun e => ?_)⟩
    · subst hq
      rw [e3]
      refine sg_37_11 (d := 6) ⟨⟨bI01 _, ax_kd s1⟩, ⟨bI01 _, ax_kd s1⟩, ⟨bI01 _, ax_kd s1⟩, rfl, rfl, L, ?_, fr_le (fr_I (fr_I (fr_I (fr_refl σ L) (by decide)) (by decide)) (by decide)) (by decide) (by decide)⟩
      have h1 := rc_stg h hN hk (f := 7) (n := b01 f) (by decide) (by decide) (by decide) (bI_nI f)
      have h2 := rc_stg h1 hN hk (f := 8) (n := b01 c) (by decide) (by decide) (by decide) (bI_nI c)
      exact rc_stg h2 hN hk (f := 9) (n := b01 i) (by decide) (by decide) (by decide) (bI_nI i)
    · rw [e]
      exact ⟨Nat.le_succ 1, rfl, rfl⟩
  · rw [e]
    exact ⟨Nat.le_refl 1, rfl, rfl⟩
end
end AXRM
