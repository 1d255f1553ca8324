/-! The class's public calls that only read. -/
section AXRD
/-- what a public call that only reads leaves -/
def cl_ro (σ : SG) (X : List Nat) (o : OC) : Res → SG → Prop := ax_ct (fun v σ2 => o.1.1 = 0 ∧ v = aI o.1.2 ∧ σ2 = σ) (fun E σ2 => 1 ≤ o.1.1 ∧ E = X.getD (o.1.1 - 1) 9 ∧ σ2 = thrC σ)
theorem ro_rd {σ : SG} {X : List Nat} {o : OC} {v : AV} (h0 : o.1.1 = 0) (hv : v = aI o.1.2) : cl_ro σ X o (.inl v) σ := ⟨h0, hv, rfl⟩
section
variable {e0 mo : Nat} {σ σ' : SG} {x : Nat} {L : LY} {A A' : MS} {r k j p w : Nat}
theorem ct_38 (h : ax_rc e0 σ x L A) : ax_wp e0 mo 1 38 (0, ax_entry 38 [aR x], []) σ (cl_ro σ [] ((0, nI (mN A)), A)) := by
  obtain ⟨f0, f1, f2, f3, f4, f5, f6, f7, f8⟩ := xf h
  have li := h.2.1.1
  refine sg_38_0 (d := 0) ⟨ax_kd f0, ?_⟩
  rw [f1]
  refine ⟨ax_kd li.1, ax_use0 (ct_157 li) rfl ?_⟩
  exact sg_38_7 (d := 0) (ro_rd rfl rfl)
theorem ct_43 (h : ax_rc e0 σ x L A) : ax_wp e0 mo 1 43 (0, ax_entry 43 [aR x], []) σ (cl_ro σ [] ((0, nI (mR A)), A)) := by
  obtain ⟨f0, f1, f2, f3, f4, f5, f6, f7, f8⟩ := xf h
  have li := h.2.1.2.1
  refine sg_43_0 (d := 0) ⟨ax_kd f0, ?_⟩
  rw [f2]
  refine ⟨ax_kd li.1, ax_use0 (ct_157 li) rfl ?_⟩
  exact sg_43_7 (d := 0) (ro_rd rfl rfl)
theorem ct_50 (h : ax_rc e0 σ x L A) : ax_wp e0 mo 1 50 (0, ax_entry 50 [aR x], []) σ (cl_ro σ [] ((0, nI (mQ A).length), A)) := by
  obtain ⟨f0, f1, f2, f3, f4, f5, f6, f7, f8⟩ := xf h
  have li := h.2.1.2.2.1
  refine sg_50_0 (d := 0) ⟨ax_kd f0, ?_⟩
  rw [f3]
  refine ⟨ax_kd li.1, ax_use0 (ct_157 li) rfl ?_⟩
  exact sg_50_7 (d := 0) (ro_rd rfl rfl)
theorem ct_58 (h : ax_rc e0 σ x L A) : ax_wp e0 mo 1 58 (0, ax_entry 58 [aR x], []) σ (cl_ro σ [] ((0, nI (mE A).length), A)) := by
  obtain ⟨f0, f1, f2, f3, f4, f5, f6, f7, f8⟩ := xf h
  have li := h.2.1.2.2.2.1
  refine sg_58_0 (d := 0) ⟨ax_kd f0, ?_⟩
  rw [f5, f8]
  refine ⟨ax_kd f7, ax_kd li.1, ax_use0 (ct_157 li) rfl ?_⟩
  exact sg_58_10 (d := 0) (ro_rd rfl rfl)
theorem ct_44 (h : ax_rc e0 σ x L A) (hI : mB A) (v : Int32) : ax_wp e0 mo 7 44 (0, ax_entry 44 [aR x, aI v], []) σ (cl_ro σ [0] (oState A v)) := by
  have hR := hI.1.2
  unfold oState
  refine sg_44_0 (d := 6) ⟨ax_kd (xf h).1, ?_⟩
  refine ck_use (ct_62 h hI v) rfl (fun u e hu => ?_) (fun e => ?_)
  · subst hu
    obtain ⟨r, hr, rfl⟩ := inB_yes e (by omega)
    have cr : (nI r).toNatClampNeg = r := nI_clamp (by omega)
    obtain ⟨a1, a2, a3, a4, a5, a6, a7, a8⟩ := ru_at h hr
    rw [e, cr]
    refine sg_44_5 (d := 6) ⟨ax_kd a1, ro_rd rfl ?_⟩
    rw [a6]
    rfl
  · rw [e]
    exact ⟨Nat.le_refl 1, rfl, rfl⟩
theorem ct_45 (h : ax_rc e0 σ x L A) (hI : mB A) (hJ : mJI A) (u v w : Int32) : ax_wp e0 mo 9 45 (0, ax_entry 45 [aR x, aI u, aI v, aI w], []) σ (cl_ro σ [0] (oJobState A u v w)) := by
  unfold oJobState
  refine sg_45_0 (d := 8) ⟨ax_kd (xf h).1, ?_⟩
  refine ck_use (ct_64 h hI hJ u v w) rfl (fun q e hq => ?_) (fun e => ?_)
  · subst hq
    obtain ⟨r, k, j, rfl, rfl, rfl, hr, hk, hj, hs, cr, ck, cj⟩ := jobB_yes e hI
    have hk16 : k < mU A 16 r := by
      rcases Nat.lt_or_ge k (mU A 16 r) with q | q
      · exact q
      · exact absurd (hJ.1 r k j hr q) hs
    obtain ⟨⟨a1, a2, a3, a4⟩, a5, a6, a7, a8, a9⟩ := h.2.2.2.2.2.1 r k j hr hk16 hj hs
    rw [e, cr, ck, cj]
    refine sg_45_7 (d := 8) ⟨ax_kd a2, ro_rd rfl ?_⟩
    rw [a5]
    rfl
  · rw [e]
    exact ⟨Nat.le_refl 1, rfl, rfl⟩
theorem ct_46 (h : ax_rc e0 σ x L A) (hI : mB A) (hJ : mJI A) (u v w : Int32) : ax_wp e0 mo 9 46 (0, ax_entry 46 [aR x, aI u, aI v, aI w], []) σ (cl_ro σ [0] (oAttempts A u v w)) := by
  unfold oAttempts
  refine sg_46_0 (d := 8) ⟨ax_kd (xf h).1, ?_⟩
  refine ck_use (ct_64 h hI hJ u v w) rfl (fun q e hq => ?_) (fun e => ?_)
  · subst hq
    obtain ⟨r, k, j, rfl, rfl, rfl, hr, hk, hj, hs, cr, ck, cj⟩ := jobB_yes e hI
    have hk16 : k < mU A 16 r := by
      rcases Nat.lt_or_ge k (mU A 16 r) with q | q
      · exact q
      · exact absurd (hJ.1 r k j hr q) hs
    obtain ⟨⟨a1, a2, a3, a4⟩, a5, a6, a7, a8, a9⟩ := h.2.2.2.2.2.1 r k j hr hk16 hj hs
    rw [e, cr, ck, cj]
    refine sg_46_7 (d := 8) ⟨ax_kd a2, ro_rd rfl ?_⟩
    rw [a6]
    rfl
  · rw [e]
    exact ⟨Nat.le_refl 1, rfl, rfl⟩
theorem ct_47 (h : ax_rc e0 σ x L A) (hI : mB A) (hJ : mJI A) (u v w : Int32) : ax_wp e0 mo 9 47 (0, ax_entry 47 [aR x, aI u, aI v, aI w], []) σ (cl_ro σ [0] (oRestored A u v w)) := by
  unfold oRestored
  refine sg_47_0 (d := 8) ⟨ax_kd (xf h).1, ?_⟩
  refine ck_use (ct_64 h hI hJ u v w) rfl (fun q e hq => ?_) (fun e => ?_)
  · subst hq
    obtain ⟨r, k, j, rfl, rfl, rfl, hr, hk, hj, hs, cr, ck, cj⟩ := jobB_yes e hI
    have hk16 : k < mU A 16 r := by
      rcases Nat.lt_or_ge k (mU A 16 r) with q | q
      · exact q
      · exact absurd (hJ.1 r k j hr q) hs
    obtain ⟨⟨a1, a2, a3, a4⟩, a5, a6, a7, a8, a9⟩ := h.2.2.2.2.2.1 r k j hr hk16 hj hs
    rw [e, cr, ck, cj]
    refine sg_47_7 (d := 8) ⟨ax_kd a2, ro_rd rfl ?_⟩
    rw [a8]
    rfl
  · rw [e]
    exact ⟨Nat.le_refl 1, rfl, rfl⟩
theorem ct_48 (h : ax_rc e0 σ x L A) (hI : mB A) (hP : mPB A) (u v : Int32) : ax_wp e0 mo 8 48 (0, ax_entry 48 [aR x, aI u, aI v], []) σ (cl_ro σ [0] (oIsGood A u v)) := by
  unfold oIsGood
  refine sg_48_0 (d := 7) ⟨ax_kd (xf h).1, ?_⟩
  refine ck_use (ct_63 h hI u v) rfl (fun q e hq => ?_) (fun e => ?_)
  · subst hq
    obtain ⟨r, k, rfl, rfl, hr, hk, hk8, cr, ck⟩ := stgB_yes e hI
    rw [e, cr, ck]
    refine sg_48_6 (d := 7) ⟨ax_kd (pt_at h hr hk).1, ax_use0 (ct_14 h hI hP hr hk) rfl ?_⟩
    exact sg_48_9 (d := 7) ⟨bI01 _, ro_rd rfl rfl⟩
  · rw [e]
    exact ⟨Nat.le_refl 1, rfl, rfl⟩
theorem mArt_top {n : Nat} (hb : mP A 4 r k < 2 ^ n) : ∀ i, mArt A r k (n + i) = mArt A r k n := by
  intro i
  induction i with
  | zero => rfl
  | succ i ih =>
    show mArt A r k (n + i) + (bif mBit (mP A 4 r k) (n + i) then mCnt A r (n + i) 3 else 0) = _
    rw [bit_high hb (Nat.le_add_right _ _), ih]
    rfl
theorem ct_49 (h : ax_rc e0 σ x L A) (hI : mB A) (hP : mPB A) (u v : Int32) : ax_wp e0 mo 8 49 (0, ax_entry 49 [aR x, aI u, aI v], []) σ (cl_ro σ [0] (oArtifacts A u v)) := by
  unfold oArtifacts
  refine sg_49_0 (d := 7) ⟨ax_kd (xf h).1, ?_⟩
  refine ck_use (ct_63 h hI u v) rfl (fun q e hq => ?_) (fun e => ?_)
  · subst hq
    obtain ⟨r, k, rfl, rfl, hr, hk, hk8, cr, ck⟩ := stgB_yes e hI
    rw [e, cr, ck]
    obtain ⟨p1, p2, p3, p4, q1, q2, q3, c1⟩ := pt_at h hr hk
    obtain ⟨a1, a2, a3, a4, a5, a6, a7, a8⟩ := ru_at h hr
    have h8 := mU16_le hI hr
    have h4 := mPB_needs hP hI hr k hk
    refine sg_49_6 (d := 7) ⟨ax_kd p1, ?_⟩
    rw [p2, a5]
    refine ⟨ax_kd a1, ?_⟩
    refine ax_down (N := mU A 16 r) (fun i => ax_wp e0 mo 8 49 (22, [aR x, aI (nI r), aI (nI k), aR (gP L 0 r k), aR (gU L 2 r), aI (nI (mArt A r k i)), aI (nI i)], []) σ _) ?_ (fun i hi ih => ?_) 0 (Nat.zero_le _)
    · refine sg_49_22 (d := 7) ⟨ax_kd a8, ax_use0 (ct_157 a7) rfl ?_⟩
      refine sg_49_29 (d := 7) ⟨fun q => absurd q (nI_nlt (Nat.le_refl _) (by omega)), fun _ => ro_rd rfl ?_⟩
      have e8 := mArt_top (hP r k hr hk).1 (8 - mU A 16 r)
      rw [show mU A 16 r + (8 - mU A 16 r) = 8 by omega] at e8
      show _ = aI (nI (mArt A r k 8))
      rw [e8]
    · have hc := mCnt_le A r i 3
      have e1 : mArt A r k (i + 1) = mArt A r k i + (bif mBit (mP A 4 r k) i then mCnt A r i 3 else 0) := rfl
      rw [e1] at ih
      refine sg_49_22 (d := 7) ⟨ax_kd a8, ax_use0 (ct_157 a7) rfl ?_⟩
      refine sg_49_29 (d := 7) ⟨fun _ => ⟨ax_kd p1, ?_⟩, fun q => absurd (nI_lt hi (by omega)) q⟩
      rw [p3]
      refine ⟨ax_kd q1, ax_use0 (ct_31 q1 (q3 4 (by decide) (by decide)) (by omega) (by omega)) rfl ?_⟩
      refine sg_49_41 (d := 7) ⟨fun q => ?_, fun q => ⟨ax_kd a8, ax_use0 (ct_160 a7 hi) rfl ?_⟩⟩
      · rw [bI0 q] at ih
        rw [nI_1]; exact ih
      · have pk := (pt_at h hr hi).1
        refine sg_49_53 (d := 7) ⟨Or.inr (ax_kd pk), ax_kd pk, ax_use0 (ct_12 (s := 3) h hI hr hi (by decide)) rfl ?_⟩
        refine sg_49_60 (d := 7) ?_
        rw [nI_1, nI_add]
        rw [bI1 q] at ih
        exact ih
  · rw [e]
    exact ⟨Nat.le_refl 1, rfl, rfl⟩
theorem ct_51 (h : ax_rc e0 σ x L A) (hJJ : mJJ A) (v : Int32) : ax_wp e0 mo 7 51 (0, ax_entry 51 [aR x, aI v], []) σ (cl_ro σ [0] (oQRun A v)) := by
  have hl := mQ_len hJJ.2.1 hJJ.2.2.1
  unfold oQRun
  refine sg_51_0 (d := 6) ⟨ax_kd (xf h).1, ?_⟩
  refine ck_use (ct_65 h hJJ v) rfl (fun q e hq => ?_) (fun e => ?_)
  · subst hq
    obtain ⟨i, hi, rfl⟩ := inB_yes e (by omega)
    have ci : (nI i).toNatClampNeg = i := nI_clamp (by omega)
    have hm := mQ_at hi
    obtain ⟨p1, p2, p3⟩ := hJJ.2.2.1.2 _ hm
    rw [e, ci]
    unfold lQ
    generalize (mQ A).getD i 0 = p at p1 p2 p3 hm ⊢
    have hk := (mNk hJJ.1.1 hJJ.2.2.2.2.1 p1 (show mJp A 0 p ≠ 8 by rw [show mJp A 0 p = 1 from p3]; decide)).1
    have j1 := h.2.2.2.2.2.1 _ _ _ p1 hk (pl_of p).2.2 (by rw [p3]; decide)
    have b1 := h.2.2.2.2.1 _ _ p1 hk
    have u1 := (h.2.2.2.1 _ p1).1
    refine sg_51_5 (d := 6) ⟨ax_kd j1.1.2.1, ?_⟩
    rw [j1.1.2.2.1]
    refine ⟨ax_kd b1.1.1, ?_⟩
    rw [b1.1.2.1]
    refine ⟨ax_kd u1.1, ro_rd rfl ?_⟩
    rw [u1.2.1]
    rfl
  · rw [e]
    exact ⟨Nat.le_refl 1, rfl, rfl⟩
theorem ct_52 (h : ax_rc e0 σ x L A) (hJJ : mJJ A) (v : Int32) : ax_wp e0 mo 7 52 (0, ax_entry 52 [aR x, aI v], []) σ (cl_ro σ [0] (oQStage A v)) := by
  have hl := mQ_len hJJ.2.1 hJJ.2.2.1
  unfold oQStage
  refine sg_52_0 (d := 6) ⟨ax_kd (xf h).1, ?_⟩
  refine ck_use (ct_65 h hJJ v) rfl (fun q e hq => ?_) (fun e => ?_)
  · subst hq
    obtain ⟨i, hi, rfl⟩ := inB_yes e (by omega)
    have ci : (nI i).toNatClampNeg = i := nI_clamp (by omega)
    have hm := mQ_at hi
    obtain ⟨p1, p2, p3⟩ := hJJ.2.2.1.2 _ hm
    rw [e, ci]
    unfold lQ
    generalize (mQ A).getD i 0 = p at p1 p2 p3 hm ⊢
    have hk := (mNk hJJ.1.1 hJJ.2.2.2.2.1 p1 (show mJp A 0 p ≠ 8 by rw [show mJp A 0 p = 1 from p3]; decide)).1
    have j1 := h.2.2.2.2.2.1 _ _ _ p1 hk (pl_of p).2.2 (by rw [p3]; decide)
    have b1 := h.2.2.2.2.1 _ _ p1 hk
    have u1 := (h.2.2.2.1 _ p1).1
    refine sg_52_5 (d := 6) ⟨ax_kd j1.1.2.1, ?_⟩
    rw [j1.1.2.2.1]
    refine ⟨ax_kd b1.1.1, ?_⟩
    rw [b1.1.2.2.1]
    refine ⟨ax_kd b1.2.1.1, ro_rd rfl ?_⟩
    rw [b1.2.1.2.1]
    rfl
  · rw [e]
    exact ⟨Nat.le_refl 1, rfl, rfl⟩
theorem ct_56 (h : ax_rc e0 σ x L A) (hJJ : mJJ A) (v : Int32) : ax_wp e0 mo 7 56 (0, ax_entry 56 [aR x, aI v], []) σ (cl_ro σ [0] (oWRun A v)) := by
  obtain ⟨f0, f1, f2, f3, f4, f5, f6, f7, f8⟩ := xf h
  unfold oWRun
  refine sg_56_0 (d := 6) ⟨ax_kd f0, ?_⟩
  refine ck_use (ct_68 h v) rfl (fun q e hq => ?_) (fun e => ?_)
  · subst hq
    obtain ⟨w, hw, rfl⟩ := inB_yes e (by decide)
    obtain ⟨i1, c1, v1⟩ := wk_at h hw
    rw [e, c1]
    refine sg_56_5 (d := 6) ⟨ax_kd f0, ?_⟩
    rw [f4, c1, v1]
    by_cases z : mW A w = 0
    · rw [z]
      exact ⟨i1, fun _ => ro_rd rfl rfl, fun q => absurd rfl q⟩
    · rw [if_neg z, nb_ne z]
      obtain ⟨p1, hk, q3, q4, q5, j1⟩ := wj_at h hJJ (w := w) (p := mW A w - 1) (by omega)
      have b1 := h.2.2.2.2.1 _ _ p1 hk
      have u1 := (h.2.2.2.1 _ p1).1
      refine ⟨i1, fun q => absurd q (Nat.ne_of_gt j1.1.1), fun _ => ⟨ax_kd j1.1.2.1, ?_⟩⟩
      rw [j1.1.2.2.1]
      refine ⟨ax_kd b1.1.1, ?_⟩
      rw [b1.1.2.1]
      refine ⟨ax_kd u1.1, ro_rd rfl ?_⟩
      rw [u1.2.1]
      rfl
  · rw [e]
    exact ⟨Nat.le_refl 1, rfl, rfl⟩
theorem ct_57 (h : ax_rc e0 σ x L A) (hJJ : mJJ A) (v : Int32) : ax_wp e0 mo 7 57 (0, ax_entry 57 [aR x, aI v], []) σ (cl_ro σ [0] (oWStage A v)) := by
  obtain ⟨f0, f1, f2, f3, f4, f5, f6, f7, f8⟩ := xf h
  unfold oWStage
  refine sg_57_0 (d := 6) ⟨ax_kd f0, ?_⟩
  refine ck_use (ct_68 h v) rfl (fun q e hq => ?_) (fun e => ?_)
  · subst hq
    obtain ⟨w, hw, rfl⟩ := inB_yes e (by decide)
    obtain ⟨i1, c1, v1⟩ := wk_at h hw
    rw [e, c1]
    refine sg_57_5 (d := 6) ⟨ax_kd f0, ?_⟩
    rw [f4, c1, v1]
    by_cases z : mW A w = 0
    · rw [z]
      exact ⟨i1, fun _ => ro_rd rfl rfl, fun q => absurd rfl q⟩
    · rw [if_neg z, nb_ne z]
      obtain ⟨p1, hk, q3, q4, q5, j1⟩ := wj_at h hJJ (w := w) (p := mW A w - 1) (by omega)
      have b1 := h.2.2.2.2.1 _ _ p1 hk
      have u1 := (h.2.2.2.1 _ p1).1
      refine ⟨i1, fun q => absurd q (Nat.ne_of_gt j1.1.1), fun _ => ⟨ax_kd j1.1.2.1, ?_⟩⟩
      rw [j1.1.2.2.1]
      refine ⟨ax_kd b1.1.1, ?_⟩
      rw [b1.1.2.2.1]
      refine ⟨ax_kd b1.2.1.1, ro_rd rfl ?_⟩
      rw [b1.2.1.2.1]
      rfl
  · rw [e]
    exact ⟨Nat.le_refl 1, rfl, rfl⟩
theorem ct_59 (h : ax_rc e0 σ x L A) (hE : mEB A) (v : Int32) : ax_wp e0 mo 7 59 (0, ax_entry 59 [aR x, aI v], []) σ (cl_ro σ [0] (oEStage A v)) := by
  have hl := hE.1
  unfold oEStage
  refine sg_59_0 (d := 6) ⟨ax_kd (xf h).1, ?_⟩
  refine ck_use (ct_67 h hE v) rfl (fun q e hq => ?_) (fun e => ?_)
  · subst hq
    obtain ⟨i, hi, rfl⟩ := inB_yes e (by omega)
    have ci : (nI i).toNatClampNeg = i := nI_clamp (by omega)
    obtain ⟨e1, e2, e3, e4⟩ := h.2.2.2.2.2.2.2.1 i hi
    rw [e, ci]
    refine sg_59_5 (d := 6) ⟨ax_kd e1, ro_rd rfl ?_⟩
    rw [e2]
    rfl
  · rw [e]
    exact ⟨Nat.le_refl 1, rfl, rfl⟩
theorem ip_dig {q c l : Nat} (h : ax_ip σ q c l) (h1 : 1 ≤ l) (h3 : l ≤ 3) (hj : j < l) : sgI σ 20 j q = nI (c / mPow (l - 1 - j) % 100) := by
  obtain ⟨-, -, x, y, z, b1, b2, b3, b4, b5, b6, b7⟩ := h
  have e : l = 1 ∨ l = 2 ∨ l = 3 := by omega
  rcases e with rfl | rfl | rfl
  · obtain rfl : j = 0 := by omega
    rw [b4, b7]
    show nI x = nI ((10000 * x + 100 * y + z) / 10000 / 1 % 100)
    congr 1; omega
  · have e : j = 0 ∨ j = 1 := by omega
    rcases e with rfl | rfl
    · rw [b4, b7]
      show nI x = nI ((10000 * x + 100 * y + z) / 100 / 100 % 100)
      congr 1; omega
    · rw [b5, b7]
      show nI y = nI ((10000 * x + 100 * y + z) / 100 / 1 % 100)
      congr 1; omega
  · have e : j = 0 ∨ j = 1 ∨ j = 2 := by omega
    rcases e with rfl | rfl | rfl
    · rw [b4, b7]
      show nI x = nI ((10000 * x + 100 * y + z) / 1 / 10000 % 100)
      congr 1; omega
    · rw [b5, b7]
      show nI y = nI ((10000 * x + 100 * y + z) / 1 / 100 % 100)
      congr 1; omega
    · rw [b6, b7]
      show nI z = nI ((10000 * x + 100 * y + z) / 1 / 1 % 100)
      congr 1; omega
theorem ct_60 (h : ax_rc e0 σ x L A) (hE : mEB A) (u v : Int32) : ax_wp e0 mo 7 60 (0, ax_entry 60 [aR x, aI u, aI v], []) σ (cl_ro σ [0] (oEInput A u v)) := by
  have hl := hE.1
  unfold oEInput
  refine sg_60_0 (d := 6) ⟨ax_kd (xf h).1, ?_⟩
  refine ck_use (ct_67 h hE u) rfl (fun q e hq => ?_) (fun e => ?_)
  · subst hq
    obtain ⟨i, hi, rfl⟩ := inB_yes e (by omega)
    have ci : (nI i).toNatClampNeg = i := nI_clamp (by omega)
    obtain ⟨e1, e2, e3, e4⟩ := h.2.2.2.2.2.2.2.1 i hi
    obtain ⟨b1, b2, b3, b4⟩ := hE.2 _ (mE_at hi)
    rw [e, ci, Bool.true_and]
    generalize (mE A).getD i (0, 0) = en at e2 e3 e4 b1 b2 b3 b4 ⊢
    refine sg_60_5 (d := 6) ⟨fun z => ⟨by decide, ?_⟩, fun z => ⟨fun y => ⟨ax_kd e1, ?_⟩, fun y => ⟨by decide, ?_⟩⟩⟩
    · rw [inB_neg (n := 3) (by decide) z]
      exact ⟨Nat.le_refl 1, rfl, rfl⟩
    · have e5 := inB_lt (n := 3) (by decide) z y
      obtain ⟨j, hj, rfl⟩ := inB_yes e5 (by decide)
      have cj : (nI j).toNatClampNeg = j := nI_clamp (by omega)
      have ij : ax_in σ 20 (sgR σ 1 2 (gE L i)) (nI j) := ax_in_nI e4.1 hj (by decide)
      rw [e5, e3, cj]
      refine pk_lt j (mS A 6 en.1) (fun q => ⟨ax_kd e1, ?_⟩) (fun q => ro_rd rfl ?_)
      · rw [e4.1]
        refine ⟨⟨by decide, by decide⟩, fun _ => ⟨ax_kd e1, ij, ro_rd rfl ?_⟩, fun q => absurd (nI_lt (b := 3) hj (by decide)) q⟩
        rw [ip_dig e4 b2 b3 q]
        show _ = aI (mInOf A en j)
        unfold mInOf
        rw [Nat.blt_eq.mpr q]
        rfl
      · show _ = aI (mInOf A en j)
        unfold mInOf
        rw [not_true_b (b := Nat.blt j (mS A 6 en.1)) (fun w => absurd (Nat.blt_eq.mp w) (by omega))]
        rfl
    · rw [inB_ge (n := 3) (by decide) y]
      exact ⟨Nat.le_refl 1, rfl, rfl⟩
  · rw [e]
    exact ⟨Nat.le_refl 1, rfl, rfl⟩
theorem ct_39 (h : ax_rc e0 σ x L A) (hI : mB A) (v : Int32) : ax_wp e0 mo 7 39 (0, ax_entry 39 [aR x, aI v], []) σ (cl_ro σ [0] (oJobs A v)) := by
  have hN := hI.1.1
  unfold oJobs
  refine sg_39_0 (d := 6) ⟨ax_kd (xf h).1, ?_⟩
  refine ck_use (ct_61 h hI v) rfl (fun q e hq => ?_) (fun e => ?_)
  · subst hq
    obtain ⟨k, hk, rfl⟩ := inB_yes e (by omega)
    have ck : (nI k).toNatClampNeg = k := nI_clamp (by omega)
    obtain ⟨b1, b2, b3, b4⟩ := mB_jobs hI hk
    obtain ⟨s1, s2, s3⟩ := h.2.2.1 k hk
    rw [e, ck]
    refine sg_39_5 (d := 6) ⟨ax_kd s1, ax_use0 (ct_30 s1 (s3 1 (by decide) (by decide)) (s3 2 (by decide) (by decide)) (s3 3 (by decide) (by decide)) b2 b3) rfl ?_⟩
    exact sg_39_8 (d := 6) (ro_rd rfl rfl)
  · rw [e]
    exact ⟨Nat.le_refl 1, rfl, rfl⟩
theorem ct_40 (h : ax_rc e0 σ x L A) (hI : mB A) (u v : Int32) : ax_wp e0 mo 7 40 (0, ax_entry 40 [aR x, aI u, aI v], []) σ (cl_ro σ [0] (oNeeds A u v)) := by
  have hN := hI.1.1
  unfold oNeeds
  refine sg_40_0 (d := 6) ⟨ax_kd (xf h).1, ?_⟩
  refine ck_use (ct_61 h hI u) rfl (fun q e hq => ?_) (fun e => ?_)
  · subst hq
    obtain ⟨k, hk, rfl⟩ := inB_yes e (by omega)
    have ck : (nI k).toNatClampNeg = k := nI_clamp (by omega)
    obtain ⟨s1, s2, s3⟩ := h.2.2.1 k hk
    rw [e, ck]
    refine sg_40_5 (d := 6) ⟨ax_kd (xf h).1, ?_⟩
    refine ck_use (ct_61 h hI v) rfl (fun q e2 hq => ?_) (fun e2 => ?_)
    · subst hq
      obtain ⟨t, ht, rfl⟩ := inB_yes e2 (by omega)
      have ct : (nI t).toNatClampNeg = t := nI_clamp (by omega)
      obtain ⟨t1, t2, t3⟩ := h.2.2.1 t ht
      rw [e2, ct]
      refine sg_40_11 (d := 6) ⟨ax_kd t1, ax_kd (xf h).1, ?_⟩
      rw [t2]
      refine ax_use0 (ct_72 h hI s1 (s3 4 (by decide) (by decide)) (mB_needs hI k hk) (by omega)) rfl ?_
      refine sg_40_23 (d := 6) ⟨bI01 _, ro_rd rfl ?_⟩
      have ee := mTurn_end (N := mN A) (fun i hi => (hI.2.1 i hi).2.2.2) (hI.2.1 k hk).2.2.2 (8 - mN A)
      rw [show mN A + (8 - mN A) = 8 by omega] at ee
      show _ = aI (bI (mBit (mTurn A (mS A 4 k) 8) t))
      rw [ee]
    · rw [e2]
      exact ⟨Nat.le_refl 1, rfl, rfl⟩
  · rw [e]
    exact ⟨Nat.le_refl 1, rfl, rfl⟩
end
end AXRD
