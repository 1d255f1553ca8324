/-! The class's public calls that only read. -/
section AXRD
/-- what a public call that only reads leaves -/
def cl_ro (σ : SG) (X : List Nat) (o : OC) : Res → SG → Prop := ax_ct (fun v σ2 => o.1.1 = 0 ∧ v = aI o.1.2 ∧ σ2 = σ) (fun E σ2 => 1 ≤ o.1.1 ∧ E = X.getD (o.1.1 - 1) 9 ∧ σ2 = thrC σ)
theorem ro_rd {σ : SG} {X : List Nat} {o : OC} {v : AV} (h0 : o.1.1 = 0) (hv : v = aI o.1.2) : cl_ro σ X o (.inl v) σ := ⟨h0, hv, rfl⟩
section
variable {e0 mo : Nat} {σ σ' : SG} {x : Nat} {L : LY} {A A' : MS} {r k j p w : Nat}
theorem ct_43 (h : ax_rc e0 σ x L A) : ax_wp e0 mo 1 43 (0, ax_entry 43 [aR x], []) σ (cl_ro σ [] ((0, nI (mR A)), A)) := by
  obtain ⟨f0, f1, f2, f3, f4, f5, f6, f7, f8⟩ := xf h
  have li := h.2.1.2.1
  refine sg_43_0 (d := 0) ⟨ax_kd f0, ?_⟩
  rw [f2]
  refine ⟨ax_kd li.1, ax_use0 (ct_157 li) rfl ?_⟩
  exact sg_43_7 (d := 0) (ro_rd rfl rfl)
theorem ct_50 (h : ax_rc e0 σ x L A) : ax_wp e0 mo 1 50 (0, ax_entry 50 [aR x], []) σ (cl_ro σ [] ((0, nI (mQ A).length), A)) := by
  obtain ⟨f0, f1, f2, f3, f4, f5, f6, f7, f8⟩ := xf h
  have li := h.2.1.2.2.1
  refine sg_50_0 (d := 0) ⟨ax_kd f0, ?_⟩
  rw [f3]
  refine ⟨ax_kd li.1, ax_use0 (ct_157 li) rfl ?_⟩
  exact sg_50_7 (d := 0) (ro_rd rfl rfl)
theorem ct_58 (h : ax_rc e0 σ x L A) : ax_wp e0 mo 1 58 (0, ax_entry 58 [aR x], []) σ (cl_ro σ [] ((0, nI (mE A).length), A)) := by
  obtain ⟨f0, f1, f2, f3, f4, f5, f6, f7, f8⟩ := xf h
  have li := h.2.1.2.2.2.1
  refine sg_58_0 (d := 0) ⟨ax_kd f0, ?_⟩
  rw [f5, f8]
  refine ⟨ax_kd f7, ax_kd li.1, ax_use0 (ct_157 li) rfl ?_⟩
  exact sg_58_10 (d := 0) (ro_rd rfl rfl)
theorem ct_44 (h : ax_rc e0 σ x L A) (hI : mB A) (v : Int32) : ax_wp e0 mo 7 44 (0, ax_entry 44 [aR x, aI v], []) σ (cl_ro σ [0] (oState A v)) := by
  have hR := hI.1.2
  unfold oState
  refine sg_44_0 (d := 6) ⟨ax_kd (xf h).1, ?_⟩
  refine ck_use (ct_62 h hI v) rfl (fun u e hu => ?_) (fun e => ?_)
  · subst hu
    obtain ⟨r, hr, rfl⟩ := inB_yes e (by omega)
    have cr : (nI r).toNatClampNeg = r := nI_clamp (by omega)
    obtain ⟨a1, a2, a3, a4, a5, a6, a7, a8⟩ := ru_at h hr
    rw [e, cr]
    refine sg_44_5 (d := 6) ⟨ax_kd a1, ro_rd rfl ?_⟩
    rw [a6]
    rfl
  · rw [e]
    exact ⟨Nat.le_refl 1, rfl, rfl⟩
theorem ct_45 (h : ax_rc e0 σ x L A) (hI : mB A) (hJ : mJI A) (u v w : Int32) : ax_wp e0 mo 9 45 (0, ax_entry 45 [aR x, aI u, aI v, aI w], []) σ (cl_ro σ [0] (oJobState A u v w)) := by
  unfold oJobState
  refine sg_45_0 (d := 8) ⟨ax_kd (xf h).1, ?_⟩
  refine ck_use (ct_64 h hI hJ u v w) rfl (fun q e hq => ?_) (fun e => ?_)
  · subst hq
    obtain ⟨r, k, j, rfl, rfl, rfl, hr, hk, hj, hs, cr, ck, cj⟩ := jobB_yes e hI
    have hk16 : k < mU A 16 r := by
      rcases Nat.lt_or_ge k (mU A 16 r) with q | q
      · exact q
      · exact absurd (hJ.1 r k j hr q) hs
    obtain ⟨⟨a1, a2, a3, a4⟩, a5, a6, a7, a8, a9⟩ := h.2.2.2.2.2.1 r k j hr hk16 hj hs
    rw [e, cr, ck, cj]
    refine sg_45_7 (d := 8) ⟨ax_kd a2, ro_rd rfl ?_⟩
    rw [a5]
    rfl
  · rw [e]
    exact ⟨Nat.le_refl 1, rfl, rfl⟩
theorem ct_46 (h : ax_rc e0 σ x L A) (hI : mB A) (hJ : mJI A) (u v w : Int32) : ax_wp e0 mo 9 46 (0, ax_entry 46 [aR x, aI u, aI v, aI w], []) σ (cl_ro σ [0] (oAttempts A u v w)) := by
  unfold oAttempts
  refine sg_46_0 (d := 8) ⟨ax_kd (xf h).1, ?_⟩
  refine ck_use (ct_64 h hI hJ u v w) rfl (fun q e hq => ?_) (fun e => ?_)
  · subst hq
    obtain ⟨r, k, j, rfl, rfl, rfl, hr, hk, hj, hs, cr, ck, cj⟩ := jobB_yes e hI
    have hk16 : k < mU A 16 r := by
      rcases Nat.lt_or_ge k (mU A 16 r) with q | q
      · exact q
      · exact absurd (hJ.1 r k j hr q) hs
    obtain ⟨⟨a1, a2, a3, a4⟩, a5, a6, a7, a8, a9⟩ := h.2.2.2.2.2.1 r k j hr hk16 hj hs
    rw [e, cr, ck, cj]
    refine sg_46_7 (d := 8) ⟨ax_kd a2, ro_rd rfl ?_⟩
    rw [a6]
    rfl
  · rw [e]
    exact ⟨Nat.le_refl 1, rfl, rfl⟩
theorem ct_47 (h : ax_rc e0 σ x L A) (hI : mB A) (hJ : mJI A) (u v w : Int32) : ax_wp e0 mo 9 47 (0, ax_entry 47 [aR x, aI u, aI v, aI w], []) σ (cl_ro σ [0] (oRestored A u v w)) := by
  unfold oRestored
  refine sg_47_0 (d := 8) ⟨ax_kd (xf h).1, ?_⟩
  refine ck_use (ct_64 h hI hJ u v w) rfl (fun q e hq => ?_) (fun e => ?_)
  · subst hq
    obtain ⟨r, k, j, rfl, rfl, rfl, hr, hk, hj, hs, cr, ck, cj⟩ := jobB_yes e hI
    have hk16 : k < mU A 16 r := by
      rcases Nat.lt_or_ge k (mU A 16 r) with q | q
      · exact q
      · exact absurd (hJ.1 r k j hr q) hs
    obtain ⟨⟨a1, a2, a3, a4⟩, a5, a6, a7, a8, a9⟩ := h.2.2.2.2.2.1 r k j hr hk16 hj hs
    rw [e, cr, ck, cj]
    refine sg_47_7 (d := 8) ⟨ax_kd a2, ro_rd rfl ?_⟩
    rw [a8]
    rfl
  · rw [e]
    exact ⟨Nat.le_refl 1, rfl, rfl⟩
theorem mArt_top {n : Nat} (hb : mP A 4 r k < 2 ^ n) : ∀ i, mArt A r k (n + i) = mArt A r k n := by
  intro i
  induction i with
  | zero => rfl
  | succ i ih =>
    show mArt A r k (n + i) + (bif mBit (mP A 4 r k) (n + i) then mCnt A r (n + i) 3 else 0) = _
    rw [bit_high hb (Nat.le_add_right _ _), ih]
    rfl
theorem ct_51 (h : ax_rc e0 σ x L A) (hJJ : mJJ A) (v : Int32) : ax_wp e0 mo 7 51 (0, ax_entry 51 [aR x, aI v], []) σ (cl_ro σ [0] (oQRun A v)) := by
  have hl := mQ_len hJJ.2.1 hJJ.2.2.1
  unfold oQRun
  refine sg_51_0 (d := 6) ⟨ax_kd (xf h).1, ?_⟩
  refine ck_use (ct_65 h hJJ v) rfl (fun q e hq => ?_) (fun e => ?_)
  · subst hq
    obtain ⟨i, hi, rfl⟩ := inB_yes e (by omega)
    have ci : (nI i).toNatClampNeg = i := nI_clamp (by omega)
    have hm := mQ_at hi
    obtain ⟨p1, p2, p3⟩ := hJJ.2.2.1.2 _ hm
    rw [e, ci]
    unfold lQ
    generalize (mQ A).getD i 0 = p at p1 p2 p3 hm ⊢
    have hk := (mNk hJJ.1.1 hJJ.2.2.2.2.1 p1 (show mJp A 0 p ≠ 8 by rw [show mJp A 0 p = 1 from p3]; decide)).1
    have j1 := h.2.2.2.2.2.1 _ _ _ p1 hk (pl_of p).2.2 (by rw [p3]; decide)
    have b1 := h.2.2.2.2.1 _ _ p1 hk
    have u1 := (h.2.2.2.1 _ p1).1
    refine sg_51_5 (d := 6) ⟨ax_kd j1.1.2.1, ?_⟩
    rw [j1.1.2.2.1]
    refine ⟨ax_kd b1.1.1, ?_⟩
    rw [b1.1.2.1]
    refine ⟨ax_kd u1.1, ro_rd rfl ?_⟩
    rw [u1.2.1]
    rfl
  · rw [e]
    exact ⟨Nat.le_refl 1, rfl, rfl⟩
theorem ct_52 (h : ax_rc e0 σ x L A) (hJJ : mJJ A) (v : Int32) : ax_wp e0 mo 7 52 (0, ax_entry 52 [aR x, aI v], []) σ (cl_ro σ [0] (oQStage A v)) := by
  have hl := mQ_len hJJ.2.1 hJJ.2.2.1
  unfold oQStage
  refine sg_52_0 (d := 6) ⟨ax_kd (xf h).1, ?_⟩
  refine ck_use (ct_65 h hJJ v) rfl (fun q e hq => ?_) (fun e => ?_)
  · subst hq
    obtain ⟨i, hi, rfl⟩ := inB_yes e (by omega)
    have ci : (nI i).toNatClampNeg = i := nI_clamp (by omega)
    have hm := mQ_at hi
    obtain ⟨p1, p2, p3⟩ := hJJ.2.2.1.2 _ hm
    rw [e, ci]
    unfold lQ
    generalize (mQ A).getD i 0 = p at p1 p2 p3 hm ⊢
    have hk := (mNk hJJ.1.1 hJJ.2.2.2.2.1 p1 (show mJp A 0 p ≠ 8 by rw [show mJp A 0 p = 1 from p3]; decide)).1
    have j1 := h.2.2.2.2.2.1 _ _ _ p1 hk (pl_of p).2.2 (by rw [p3]; decide)
    have b1 := h.2.2.2.2.1 _ _ p1 hk
    have u1 := (h.2.2.2.1 _ p1).1
    refine sg_52_5 (d := 6) ⟨ax_kd j1.1.2.1, ?_⟩
    rw [j1.1.2.2.1]
    refine ⟨ax_kd b1.1.1, ?_⟩
    rw [b1.1.2.2.1]
    refine ⟨ax_kd b1.2.1.1, ro_rd rfl ?_⟩
    rw [b1.2.1.2.1]
    rfl
  · rw [e]
    exact ⟨Nat.le_refl 1, rfl, rfl⟩
theorem ct_56 (h : ax_rc e0 σ x L A) (hJJ : mJJ A) (v : Int32) : ax_wp e0 mo 7 56 (0, ax_entry 56 [aR x, aI v], []) σ (cl_ro σ [0] (oWRun A v)) := by
  obtain ⟨f0, f1, f2, f3, f4, f5, f6, f7, f8⟩ := xf h
  unfold oWRun
  refine sg_56_0 (d := 6) ⟨ax_kd f0, ?_⟩
  refine ck_use (ct_68 h v) rfl (fun q e hq => ?_) (fun e => ?_)
  · subst hq
    obtain ⟨w, hw, rfl⟩ := inB_yes e (by decide)
    obtain ⟨i1, c1, v1⟩ := wk_at h hw
    rw [e, c1]
    refine sg_56_5 (d := 6) ⟨ax_kd f0, ?_⟩
    rw [f4, c1, v1]
    by_cases z : mW A w = 0
    · rw [z]
      exact ⟨i1, fun _ => ro_rd rfl rfl, fun q => absurd rfl q⟩
    · rw [if_neg z, nb_ne z]
      obtain ⟨p1, hk, q3, q4, q5, j1⟩ := wj_at h hJJ (w := w) (p := mW A w - 1) (by omega)
      have b1 := h.2.2.2.2.1 _ _ p1 hk
      have u1 := (h.2.2.2.1 _ p1).1
      refine ⟨i1, fun q => absurd q (Nat.ne_of_gt j1.1.1), fun _ => ⟨ax_kd j1.1.2.1, ?_⟩⟩
      rw [j1.1.2.2.1]
      refine ⟨ax_kd b1.1.1, ?_⟩
      rw [b1.1.2.1]
      refine ⟨ax_kd u1.1, ro_rd rfl ?_⟩
      rw [u1.2.1]
      rfl
  · rw [e]
    exact ⟨Nat.le_refl 1, rfl, rfl⟩
theorem ct_57 (h : ax_rc e0 σ x L A) (hJJ : mJJ A) (v : Int32) : ax_wp e0 mo 7 57 (0, ax_entry 57 [aR x, aI v], []) σ (cl_ro σ [0] (oWStage A v)) := by
  obtain ⟨f0, f1, f2, f3, f4, f5, f6, f7, f8⟩ := xf h
  unfold oWStage
  refine sg_57_0 (d := 6) ⟨ax_kd f0, ?_⟩
  refine ck_use (ct_68 h v) rfl (fun q e hq => ?_) (fun e => ?_)
  · subst hq
    obtain ⟨w, hw, rfl⟩ := inB_yes e (by decide)
    obtain ⟨i1, c1, v1⟩ := wk_at h hw
    rw [e, c1]
    refine sg_57_5 (d := 6) ⟨ax_kd f0, ?_⟩
    rw [f4, c1, v1]
    by_cases z : mW A w = 0
    · rw [z]
      exact ⟨i1, fun _ => ro_rd rfl rfl, fun q => absurd rfl q⟩
    · rw [if_neg z, nb_ne z]
      obtain ⟨p1, hk, q3, q4, q5, j1⟩ := wj_at h hJJ (w := w) (p := mW A w - 1) (by omega)
      have b1 := h.2.2.2.2.1 _ _ p1 hk
      have u1 := (h.2.2.2.1 _ p1).1
      refine ⟨i1, fun q => absurd q (Nat.ne_of_gt j1.1.1), fun _ => ⟨ax_kd j1.1.2.1, ?_⟩⟩
      rw [j1.1.2.2.1]
      refine ⟨ax_kd b1.1.1, ?_⟩
      rw [b1.1.2.2.1]
      refine ⟨ax_kd b1.2.1.1, ro_rd rfl ?_⟩
      rw [b1.2.1.2.1]
      rfl
  · rw [e]
    exact ⟨Nat.le_refl 1, rfl, rfl⟩
theorem ct_59 (h : ax_rc e0 σ x L A) (hE : mEB A) (v : Int32) : ax_wp e0 mo 7 59 (0, ax_entry 59 [aR x, aI v], []) σ (cl_ro σ [0] (oEStage A v)) := by
  have hl := hE.1
  unfold oEStage
  refine sg_59_0 (d := 6) ⟨ax_kd (xf h).1, ?_⟩
  refine ck_use (ct_67 h hE v) rfl (fun q e hq => ?_) (fun e => ?_)
  · subst hq
    obtain ⟨i, hi, rfl⟩ := inB_yes e (by omega)
    have ci : (nI i).toNatClampNeg = i := nI_clamp (by omega)
    obtain ⟨e1, e2, e3, e4⟩ := h.2.2.2.2.2.2.2.1 i hi
    rw [e, ci]
    refine sg_59_5 (d := 6) ⟨ax_kd e1, ro_rd rfl ?_⟩
    rw [e2]
    rfl
  · rw [e]
    exact ⟨Nat.le_refl 1, rfl, rfl⟩
theorem ip_dig {q c l : Nat} (h : ax_ip σ q c l) (h1 : 1 ≤ l) (h3 : l ≤ 3) (hj : j < l) : sgI σ 20 j q = nI (c / mPow (l - 1 - j) % 100) := by
  obtain ⟨-, -, x, y, z, b1, b2, b3, b4, b5, b6, b7⟩ := h
  have e : l = 1 ∨ l = 2 ∨ l = 3 := by omega
  rcases e with rfl | rfl | rfl
  · obtain rfl : j = 0 := by omega
    rw [b4, b7]
    show nI x = nI ((10000 * x + 100 * y + z) / 10000 / 1 % 100)
    congr 1; omega
  · have e : j = 0 ∨ j = 1 := by omega
    rcases e with rfl | rfl
    · rw [b4, b7]
      show nI x = nI ((10000 * x + 100 * y + z) / 100 / 100 % 100)
      congr 1; omega
    · rw [b5, b7]
      show nI y = nI ((10000 * x + 100 * y + z) / 100 / 1 % 100)
      congr 1; omega
  · have e : j = 0 ∨ j = 1 ∨ j = 2 := by omega
    rcases e with rfl | rfl | rfl
    · rw [b4, b7]
      show nI x = nI ((10000 * x + 100 * y + z) / 1 / 10000 % 100)
      congr 1; omega
    · rw [b5, b7]
      show nI y = nI ((10000 * x + 100 * y + z) / 1 / 100 % 100)
      congr 1; omega
    · rw [b6, b7]
      show nI z = nI ((10000 * x + 100 * y + z) / 1 / 1 % 100)
      congr 1; omega
theorem ct_60 (h : ax_rc e0 σ x L A) (hE : mEB A) (u v : Int32) : ax_wp e0 mo 7 60 (0, ax_entry 60 [aR x, aI u, aI v], []) σ (cl_ro σ [0] (oEInput A u v)) := by
  have hl := hE.1
  unfold oEInput
  refine sg_60_0 (d := 6) ⟨ax_kd (xf h).1, ?_⟩
  refine ck_use (ct_67 h hE u) rfl (fun q e hq => ?_) (fun e => ?_)
  · subst hq
    obtain ⟨i, hi, rfl⟩ := inB_yes e (by omega)
    have ci : (nI i).toNatClampNeg = i := nI_clamp (by omega)
    obtain ⟨e1, e2, e3, e4⟩ := h.2.2.2.2.2.2.2.1 i hi
    obtain ⟨b1, b2, b3, b4⟩ := hE.2 _ (mE_at hi)
    rw [e, ci, Bool.true_and]
    generalize (mE A).getD i (0, 0) = en at e2 e3 e4 b1 b2 b3 b4 ⊢
    refine sg_60_5 (d := 6) ⟨fun z => ⟨by decide, ?_⟩, fun z => ⟨fun y => ⟨ax_kd e1, ?_⟩, fun y => ⟨by decide, ?_⟩⟩⟩
    · rw [inB_neg (n := 3) (by decide) z]
      exact ⟨Nat.le_refl 1, rfl, rfl⟩
    · have e5 := inB_lt (n := 3) (by decide) z y
      obtain ⟨j, hj, rfl⟩ := inB_yes e5 (by decide)
      have cj : (nI j).toNatClampNeg = j := nI_clamp (by omega)
      have ij : ax_in σ 20 (sgR σ 1 2 (gE L i)) (nI j) := ax_in_nI e4.1 hj (by decide)
      rw [e5, e3, cj]
      refine pk_lt j (mS A 6 en.1) (fun q => ⟨ax_kd e1, ?_⟩) (fun q => ro_rd rfl ?_)
      · rw [e4.1]
        refine ⟨⟨by decide, by decide⟩, fun _ => ⟨ax_kd e1, ij, ro_rd rfl ?_⟩, fun q => absurd (nI_lt (b := 3) hj (by decide)) q⟩
        rw [ip_dig e4 b2 b3 q]
        show _ = aI (mInOf A en j)
        unfold mInOf
        rw [Nat.blt_eq.mpr q]
        rfl
      · show _ = aI (mInOf A en j)
        unfold mInOf
        rw [not_true_b (b := Nat.blt j (mS A 6 en.1)) (fun w => absurd (Nat.blt_eq.mp w) (by omega))]
        rfl
    · rw [inB_ge (n := 3) (by decide) y]
      exact ⟨Nat.le_refl 1, rfl, rfl⟩
  · rw [e]
    exact ⟨Nat.le_refl 1, rfl, rfl⟩
end
end AXRD
