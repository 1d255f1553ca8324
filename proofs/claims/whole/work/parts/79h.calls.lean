/-! The calls that catch. Printed by wip/whole/gen79h.py. -/
section AXWR
theorem oc_if {b : Bool} {o1 o2 : OC} {n : Nat} (h1 : o1.1.1 ≤ n) (h2 : o2.1.1 ≤ n) : (bif b then o1 else o2).1.1 ≤ n := by
  cases b
  · exact h2
  · exact h1
theorem oc_ex {A : MS} {b : Bool} {o1 o2 : OC} (h1 : 1 ≤ o1.1.1 → o1.2 = A) (h2 : 1 ≤ o2.1.1 → o2.2 = A) : 1 ≤ (bif b then o1 else o2).1.1 → (bif b then o1 else o2).2 = A := by
  cases b
  · exact h2
  · exact h1
section
variable {e0 mo : Nat} {σ : SG} {x : Nat} {L : LY} {A : MS} {ou t : Nat}
/-- what a call that catches leaves: its code, its answer -/
def wr_po (e0 : Nat) (σ : SG) (x : Nat) (L : LY) (ou : Nat) (vl : Int32 → Int64) (o : OC) : AV → SG → Prop := fun w σ2 => w = aI (nI o.1.1) ∧ ∃ L', ax_rc e0 σ2 x L' o.2 ∧ (o.1.1 = 0 → sgJ σ2 22 0 ou = vl o.1.2) ∧ ax_F (fun k i q => cW k i q ∨ (k = 22 ∧ q = ou)) σ σ2 ∧ sgZ σ2 + lRho L ≤ sgZ σ + lRho L' + 390 ∧ sgU σ2 + 4 * lRho L ≤ sgU σ + 4 * lRho L' + 6000
theorem wr_thr (h : ax_rc e0 σ x L A) {o : OC} {vl : Int32 → Int64} (h1 : 1 ≤ o.1.1) (h2 : o.2 = A) : wr_po e0 σ x L ou vl o (aI (nI o.1.1)) (thrC σ) := by
  refine ⟨rfl, L, ?_, fun z => absurd z (by omega), (ax_F.refl _ _).thr, ?_, ?_⟩
  · rw [h2]
    exact rc_F h (W := fun _ _ _ => False) ((ax_F.refl _ _).thr) (fun _ _ _ z => z.elim)
  · show sgZ σ + 1 + lRho L ≤ _; omega
  · show sgU σ + 6 + 4 * lRho L ≤ _; omega
theorem wr_put {σ2 : SG} {L' : LY} {o : OC} {vl : Int32 → Int64} {v : Int64} (h : ax_rc e0 σ2 x L' o.2) (f : cl_fr σ L σ2 L' 390 6000) (h0 : o.1.1 = 0) (hv : v = vl o.1.2) : wr_po e0 σ x L ou vl o (aI 0) (putJ σ2 22 0 ou v) := by
  refine ⟨by rw [h0]; rfl, L', rc_F h (W := fun k _ q => k = 22 ∧ q = ou) ((ax_F.refl _ _).putJ fun _ => ⟨rfl, rfl⟩) (fun k i q z => Or.inr (Or.inr (Or.inl z.1))), fun _ => ?_, (f.1.mono fun _ _ _ _ z => Or.inl z).putJ fun _ => Or.inr ⟨rfl, rfl⟩, f.2.1, f.2.2⟩
  rw [gJ_putJ, if_pos ⟨rfl, rfl, rfl⟩]; exact hv
/-- a call inside one that catches -/
theorem wr_use {d hh y Wm pc npc : Nat} {as locs stk : List AV} {X : List Nat} {o : OC} {Q : Res → SG → Prop} (c : ax_wp e0 mo hh y (0, ax_entry y as, []) σ (cl_po e0 σ x L X o)) (hd : Nat.ble hh d = true) (ho : o.1.1 ≤ X.length) (hx : ∀ i, i < X.length → ax_h Wm pc (X.getD i 9) = some (nI (i + 1))) (k : ∀ σ2 L', o.1.1 = 0 → ax_rc e0 σ2 x L' o.2 → cl_fr σ L σ2 L' 390 6000 → ax_wp e0 mo (d + 1) Wm (npc, locs, ax_push (aI o.1.2) stk) σ2 Q) (kx : 1 ≤ o.1.1 → Q (.inl (aI (nI o.1.1))) (thrC σ)) : ax_wp e0 mo d y (0, ax_entry y as, []) σ (ax_ct (fun v σ2 => ax_wp e0 mo (d + 1) Wm (npc, locs, ax_push v stk) σ2 Q) (fun E σ2 => ax_exc Wm pc Q E σ2)) := by
  refine ax_useX c hd (fun v σ2 hv => ?_) (fun E σ2 hE => ?_)
  · obtain ⟨h0, rfl, L', h2, f2⟩ := hv
    exact k σ2 L' h0 h2 f2
  · obtain ⟨h1, rfl, rfl⟩ := hE
    unfold ax_exc
    rw [hx (o.1.1 - 1) (by omega), show o.1.1 - 1 + 1 = o.1.1 by omega]
    exact kx h1
theorem oAddStage_le (A : MS) (u0 : Int32) (u1 : Int32) : (oAddStage A u0 u1).1.1 ≤ 2 := by
  unfold oAddStage
  repeat' apply oc_if
  all_goals first | exact Nat.zero_le _ | exact Nat.succ_le_succ (Nat.zero_le _) | exact Nat.succ_le_succ (Nat.succ_le_succ (Nat.zero_le _)) | exact Nat.succ_le_succ (Nat.succ_le_succ (Nat.succ_le_succ (Nat.zero_le _)))
theorem oAddStage_ex (A : MS) (u0 : Int32) (u1 : Int32) : 1 ≤ (oAddStage A u0 u1).1.1 → (oAddStage A u0 u1).2 = A := by
  unfold oAddStage
  repeat' apply oc_ex
  all_goals first | exact fun _ => rfl | exact fun z => absurd z (Nat.not_succ_le_zero _)
theorem ct_171 (h : ax_rc e0 σ x L A) (hJJ : mJJ A) (hJ1 : mJ1 A) (hJR : mJR A) (hT : mTn A t) (he0 : sgK σ e0 = (23, 0)) (ko : sgK σ ou = (22, 1)) (zo : ou < sgZ σ) (u0 : Int32) (u1 : Int32) : ax_ok e0 mo 8 171 [aR x, aI u0, aI u1, aR ou] σ (wr_po e0 σ x L ou (fun v => v.toInt64) (oAddStage A u0 u1)) := by
  refine sg_171_0 (d := 7) ⟨ax_kd (xf h).1, wr_use (ct_33 h hJJ u0 u1) rfl (oAddStage_le A u0 u1) (fun i hi => ?_) (fun σ2 L' h0 h2 f2 => ?_) (fun h1 => wr_thr h h1 (oAddStage_ex A u0 u1 h1))⟩
  · have hi : i < 2 := hi
    have e : i = 0 ∨ i = 1 := by omega
    rcases e with rfl | rfl <;> rfl
  · have k2 : sgK σ2 ou = (22, 1) := by rw [f2.1.2.2.1 _ zo]; exact ko
    have i2 : ax_in σ2 22 ou 0 := ax_in_nI (i := 0) k2 (by decide) (by decide)
    exact sg_171_8 (d := 7) ⟨i2, wr_put h2 f2 h0 rfl⟩
theorem oNeed_le (A : MS) (u0 : Int32) (u1 : Int32) : (oNeed A u0 u1).1.1 ≤ 2 := by
  unfold oNeed
  repeat' apply oc_if
  all_goals first | exact Nat.zero_le _ | exact Nat.succ_le_succ (Nat.zero_le _) | exact Nat.succ_le_succ (Nat.succ_le_succ (Nat.zero_le _)) | exact Nat.succ_le_succ (Nat.succ_le_succ (Nat.succ_le_succ (Nat.zero_le _)))
theorem oNeed_ex (A : MS) (u0 : Int32) (u1 : Int32) : 1 ≤ (oNeed A u0 u1).1.1 → (oNeed A u0 u1).2 = A := by
  unfold oNeed
  repeat' apply oc_ex
  all_goals first | exact fun _ => rfl | exact fun z => absurd z (Nat.not_succ_le_zero _)
theorem ct_172 (h : ax_rc e0 σ x L A) (hJJ : mJJ A) (hJ1 : mJ1 A) (hJR : mJR A) (hT : mTn A t) (he0 : sgK σ e0 = (23, 0)) (ko : sgK σ ou = (22, 1)) (zo : ou < sgZ σ) (u0 : Int32) (u1 : Int32) : ax_ok e0 mo 8 172 [aR x, aI u0, aI u1, aR ou] σ (wr_po e0 σ x L ou (fun v => v.toInt64) (oNeed A u0 u1)) := by
  refine sg_172_0 (d := 7) ⟨ax_kd (xf h).1, wr_use (ct_34 h hJJ u0 u1) rfl (oNeed_le A u0 u1) (fun i hi => ?_) (fun σ2 L' h0 h2 f2 => ?_) (fun h1 => wr_thr h h1 (oNeed_ex A u0 u1 h1))⟩
  · have hi : i < 2 := hi
    have e : i = 0 ∨ i = 1 := by omega
    rcases e with rfl | rfl <;> rfl
  · have k2 : sgK σ2 ou = (22, 1) := by rw [f2.1.2.2.1 _ zo]; exact ko
    have i2 : ax_in σ2 22 ou 0 := ax_in_nI (i := 0) k2 (by decide) (by decide)
    exact sg_172_8 (d := 7) ⟨i2, wr_put h2 f2 h0 rfl⟩
theorem oExclude_le (A : MS) (u0 : Int32) (u1 : Int32) (u2 : Int32) : (oExclude A u0 u1 u2).1.1 ≤ 2 := by
  unfold oExclude
  repeat' apply oc_if
  all_goals first | exact Nat.zero_le _ | exact Nat.succ_le_succ (Nat.zero_le _) | exact Nat.succ_le_succ (Nat.succ_le_succ (Nat.zero_le _)) | exact Nat.succ_le_succ (Nat.succ_le_succ (Nat.succ_le_succ (Nat.zero_le _)))
theorem oExclude_ex (A : MS) (u0 : Int32) (u1 : Int32) (u2 : Int32) : 1 ≤ (oExclude A u0 u1 u2).1.1 → (oExclude A u0 u1 u2).2 = A := by
  unfold oExclude
  repeat' apply oc_ex
  all_goals first | exact fun _ => rfl | exact fun z => absurd z (Nat.not_succ_le_zero _)
theorem ct_173 (h : ax_rc e0 σ x L A) (hJJ : mJJ A) (hJ1 : mJ1 A) (hJR : mJR A) (hT : mTn A t) (he0 : sgK σ e0 = (23, 0)) (ko : sgK σ ou = (22, 1)) (zo : ou < sgZ σ) (u0 : Int32) (u1 : Int32) (u2 : Int32) : ax_ok e0 mo 8 173 [aR x, aI u0, aI u1, aI u2, aR ou] σ (wr_po e0 σ x L ou (fun v => v.toInt64) (oExclude A u0 u1 u2)) := by
  refine sg_173_0 (d := 7) ⟨ax_kd (xf h).1, wr_use (ct_35 h hJJ hJ1 u0 u1 u2) rfl (oExclude_le A u0 u1 u2) (fun i hi => ?_) (fun σ2 L' h0 h2 f2 => ?_) (fun h1 => wr_thr h h1 (oExclude_ex A u0 u1 u2 h1))⟩
  · have hi : i < 2 := hi
    have e : i = 0 ∨ i = 1 := by omega
    rcases e with rfl | rfl <;> rfl
  · have k2 : sgK σ2 ou = (22, 1) := by rw [f2.1.2.2.1 _ zo]; exact ko
    have i2 : ax_in σ2 22 ou 0 := ax_in_nI (i := 0) k2 (by decide) (by decide)
    exact sg_173_10 (d := 7) ⟨i2, wr_put h2 f2 h0 rfl⟩
theorem oSetStage_le (A : MS) (u0 : Int32) (u1 : Int32) (u2 : Int32) : (oSetStage A u0 u1 u2).1.1 ≤ 3 := by
  unfold oSetStage
  repeat' apply oc_if
  all_goals first | exact Nat.zero_le _ | exact Nat.succ_le_succ (Nat.zero_le _) | exact Nat.succ_le_succ (Nat.succ_le_succ (Nat.zero_le _)) | exact Nat.succ_le_succ (Nat.succ_le_succ (Nat.succ_le_succ (Nat.zero_le _)))
theorem oSetStage_ex (A : MS) (u0 : Int32) (u1 : Int32) (u2 : Int32) : 1 ≤ (oSetStage A u0 u1 u2).1.1 → (oSetStage A u0 u1 u2).2 = A := by
  unfold oSetStage
  repeat' apply oc_ex
  all_goals first | exact fun _ => rfl | exact fun z => absurd z (Nat.not_succ_le_zero _)
theorem ct_174 (h : ax_rc e0 σ x L A) (hJJ : mJJ A) (hJ1 : mJ1 A) (hJR : mJR A) (hT : mTn A t) (he0 : sgK σ e0 = (23, 0)) (ko : sgK σ ou = (22, 1)) (zo : ou < sgZ σ) (u0 : Int32) (u1 : Int32) (u2 : Int32) : ax_ok e0 mo 8 174 [aR x, aI u0, aI u1, aI u2, aR ou] σ (wr_po e0 σ x L ou (fun v => v.toInt64) (oSetStage A u0 u1 u2)) := by
  refine sg_174_0 (d := 7) ⟨ax_kd (xf h).1, wr_use (ct_36 h hJJ u0 u1 u2) rfl (oSetStage_le A u0 u1 u2) (fun i hi => ?_) (fun σ2 L' h0 h2 f2 => ?_) (fun h1 => wr_thr h h1 (oSetStage_ex A u0 u1 u2 h1))⟩
  · have hi : i < 3 := hi
    have e : i = 0 ∨ i = 1 ∨ i = 2 := by omega
    rcases e with rfl | rfl | rfl <;> rfl
  · have k2 : sgK σ2 ou = (22, 1) := by rw [f2.1.2.2.1 _ zo]; exact ko
    have i2 : ax_in σ2 22 ou 0 := ax_in_nI (i := 0) k2 (by decide) (by decide)
    exact sg_174_10 (d := 7) ⟨i2, wr_put h2 f2 h0 rfl⟩
theorem oJobs_le (A : MS) (u0 : Int32) : (oJobs A u0).1.1 ≤ 1 := by
  unfold oJobs
  repeat' apply oc_if
  all_goals first | exact Nat.zero_le _ | exact Nat.succ_le_succ (Nat.zero_le _) | exact Nat.succ_le_succ (Nat.succ_le_succ (Nat.zero_le _)) | exact Nat.succ_le_succ (Nat.succ_le_succ (Nat.succ_le_succ (Nat.zero_le _)))
theorem oJobs_ex (A : MS) (u0 : Int32) : 1 ≤ (oJobs A u0).1.1 → (oJobs A u0).2 = A := by
  unfold oJobs
  repeat' apply oc_ex
  all_goals first | exact fun _ => rfl | exact fun z => absurd z (Nat.not_succ_le_zero _)
theorem ct_176 (h : ax_rc e0 σ x L A) (hJJ : mJJ A) (hJ1 : mJ1 A) (hJR : mJR A) (hT : mTn A t) (he0 : sgK σ e0 = (23, 0)) (ko : sgK σ ou = (22, 1)) (zo : ou < sgZ σ) (u0 : Int32) : ax_ok e0 mo 8 176 [aR x, aI u0, aR ou] σ (wr_po e0 σ x L ou (fun v => v.toInt64) (oJobs A u0)) := by
  refine sg_176_0 (d := 7) ⟨ax_kd (xf h).1, wr_use (ct_39 h hJJ.1.1 u0) rfl (oJobs_le A u0) (fun i hi => ?_) (fun σ2 L' h0 h2 f2 => ?_) (fun h1 => wr_thr h h1 (oJobs_ex A u0 h1))⟩
  · have hi : i < 1 := hi
    have e : i = 0 := by omega
    subst e; rfl
  · have k2 : sgK σ2 ou = (22, 1) := by rw [f2.1.2.2.1 _ zo]; exact ko
    have i2 : ax_in σ2 22 ou 0 := ax_in_nI (i := 0) k2 (by decide) (by decide)
    exact sg_176_7 (d := 7) ⟨i2, wr_put h2 f2 h0 rfl⟩
theorem oNeeds_le (A : MS) (u0 : Int32) (u1 : Int32) : (oNeeds A u0 u1).1.1 ≤ 1 := by
  unfold oNeeds
  repeat' apply oc_if
  all_goals first | exact Nat.zero_le _ | exact Nat.succ_le_succ (Nat.zero_le _) | exact Nat.succ_le_succ (Nat.succ_le_succ (Nat.zero_le _)) | exact Nat.succ_le_succ (Nat.succ_le_succ (Nat.succ_le_succ (Nat.zero_le _)))
theorem oNeeds_ex (A : MS) (u0 : Int32) (u1 : Int32) : 1 ≤ (oNeeds A u0 u1).1.1 → (oNeeds A u0 u1).2 = A := by
  unfold oNeeds
  repeat' apply oc_ex
  all_goals first | exact fun _ => rfl | exact fun z => absurd z (Nat.not_succ_le_zero _)
theorem ct_177 (h : ax_rc e0 σ x L A) (hJJ : mJJ A) (hJ1 : mJ1 A) (hJR : mJR A) (hT : mTn A t) (he0 : sgK σ e0 = (23, 0)) (ko : sgK σ ou = (22, 1)) (zo : ou < sgZ σ) (u0 : Int32) (u1 : Int32) : ax_ok e0 mo 8 177 [aR x, aI u0, aI u1, aR ou] σ (wr_po e0 σ x L ou (fun v => if v = 0 then Int64.ofNat 0 else Int64.ofNat 1) (oNeeds A u0 u1)) := by
  refine sg_177_0 (d := 7) ⟨ax_kd (xf h).1, wr_use (ct_40 h hJJ.1.1 u0 u1) rfl (oNeeds_le A u0 u1) (fun i hi => ?_) (fun σ2 L' h0 h2 f2 => ?_) (fun h1 => wr_thr h h1 (oNeeds_ex A u0 u1 h1))⟩
  · have hi : i < 1 := hi
    have e : i = 0 := by omega
    subst e; rfl
  · have k2 : sgK σ2 ou = (22, 1) := by rw [f2.1.2.2.1 _ zo]; exact ko
    have i2 : ax_in σ2 22 ou 0 := ax_in_nI (i := 0) k2 (by decide) (by decide)
    exact sg_177_8 (d := 7) ⟨fun z => ⟨i2, wr_put h2 f2 h0 (if_pos z).symm⟩, fun z => ⟨i2, wr_put h2 f2 h0 (if_neg z).symm⟩⟩
theorem oPush_le (A : MS) (u0 : Int32) (u1 : Int32) (u2 : Int32) (u3 : Int32) : (oPush A u0 u1 u2 u3).1.1 ≤ 3 := by
  unfold oPush
  repeat' apply oc_if
  all_goals first | exact Nat.zero_le _ | exact Nat.succ_le_succ (Nat.zero_le _) | exact Nat.succ_le_succ (Nat.succ_le_succ (Nat.zero_le _)) | exact Nat.succ_le_succ (Nat.succ_le_succ (Nat.succ_le_succ (Nat.zero_le _)))
theorem oPush_ex (A : MS) (u0 : Int32) (u1 : Int32) (u2 : Int32) (u3 : Int32) : 1 ≤ (oPush A u0 u1 u2 u3).1.1 → (oPush A u0 u1 u2 u3).2 = A := by
  unfold oPush
  repeat' apply oc_ex
  all_goals first | exact fun _ => rfl | exact fun z => absurd z (Nat.not_succ_le_zero _)
theorem ct_178 (h : ax_rc e0 σ x L A) (hJJ : mJJ A) (hJ1 : mJ1 A) (hJR : mJR A) (hT : mTn A t) (he0 : sgK σ e0 = (23, 0)) (ko : sgK σ ou = (22, 1)) (zo : ou < sgZ σ) (u0 : Int32) (u1 : Int32) (u2 : Int32) (u3 : Int32) : ax_ok e0 mo 10 178 [aR x, aI u0, aI u1, aI u2, aI u3, aR ou] σ (wr_po e0 σ x L ou (fun v => v.toInt64) (oPush A u0 u1 u2 u3)) := by
  refine sg_178_0 (d := 9) ⟨ax_kd (xf h).1, wr_use (ct_41 h hJJ hT he0 u0 u1 u2 u3) rfl (oPush_le A u0 u1 u2 u3) (fun i hi => ?_) (fun σ2 L' h0 h2 f2 => ?_) (fun h1 => wr_thr h h1 (oPush_ex A u0 u1 u2 u3 h1))⟩
  · have hi : i < 3 := hi
    have e : i = 0 ∨ i = 1 ∨ i = 2 := by omega
    rcases e with rfl | rfl | rfl <;> rfl
  · have k2 : sgK σ2 ou = (22, 1) := by rw [f2.1.2.2.1 _ zo]; exact ko
    have i2 : ax_in σ2 22 ou 0 := ax_in_nI (i := 0) k2 (by decide) (by decide)
    exact sg_178_12 (d := 9) ⟨i2, wr_put h2 f2 h0 rfl⟩
theorem oCancel_le (A : MS) (u0 : Int32) : (oCancel A u0).1.1 ≤ 2 := by
  unfold oCancel
  repeat' apply oc_if
  all_goals first | exact Nat.zero_le _ | exact Nat.succ_le_succ (Nat.zero_le _) | exact Nat.succ_le_succ (Nat.succ_le_succ (Nat.zero_le _)) | exact Nat.succ_le_succ (Nat.succ_le_succ (Nat.succ_le_succ (Nat.zero_le _)))
theorem oCancel_ex (A : MS) (u0 : Int32) : 1 ≤ (oCancel A u0).1.1 → (oCancel A u0).2 = A := by
  unfold oCancel
  repeat' apply oc_ex
  all_goals first | exact fun _ => rfl | exact fun z => absurd z (Nat.not_succ_le_zero _)
theorem ct_179 (h : ax_rc e0 σ x L A) (hJJ : mJJ A) (hJ1 : mJ1 A) (hJR : mJR A) (hT : mTn A t) (he0 : sgK σ e0 = (23, 0)) (ko : sgK σ ou = (22, 1)) (zo : ou < sgZ σ) (u0 : Int32) : ax_ok e0 mo 8 179 [aR x, aI u0, aR ou] σ (wr_po e0 σ x L ou (fun v => v.toInt64) (oCancel A u0)) := by
  refine sg_179_0 (d := 7) ⟨ax_kd (xf h).1, wr_use (ct_42 h hJJ u0) rfl (oCancel_le A u0) (fun i hi => ?_) (fun σ2 L' h0 h2 f2 => ?_) (fun h1 => wr_thr h h1 (oCancel_ex A u0 h1))⟩
  · have hi : i < 2 := hi
    have e : i = 0 ∨ i = 1 := by omega
    rcases e with rfl | rfl <;> rfl
  · have k2 : sgK σ2 ou = (22, 1) := by rw [f2.1.2.2.1 _ zo]; exact ko
    have i2 : ax_in σ2 22 ou 0 := ax_in_nI (i := 0) k2 (by decide) (by decide)
    exact sg_179_7 (d := 7) ⟨i2, wr_put h2 f2 h0 rfl⟩
theorem oState_le (A : MS) (u0 : Int32) : (oState A u0).1.1 ≤ 1 := by
  unfold oState
  repeat' apply oc_if
  all_goals first | exact Nat.zero_le _ | exact Nat.succ_le_succ (Nat.zero_le _) | exact Nat.succ_le_succ (Nat.succ_le_succ (Nat.zero_le _)) | exact Nat.succ_le_succ (Nat.succ_le_succ (Nat.succ_le_succ (Nat.zero_le _)))
theorem oState_ex (A : MS) (u0 : Int32) : 1 ≤ (oState A u0).1.1 → (oState A u0).2 = A := by
  unfold oState
  repeat' apply oc_ex
  all_goals first | exact fun _ => rfl | exact fun z => absurd z (Nat.not_succ_le_zero _)
theorem ct_180 (h : ax_rc e0 σ x L A) (hJJ : mJJ A) (hJ1 : mJ1 A) (hJR : mJR A) (hT : mTn A t) (he0 : sgK σ e0 = (23, 0)) (ko : sgK σ ou = (22, 1)) (zo : ou < sgZ σ) (u0 : Int32) : ax_ok e0 mo 8 180 [aR x, aI u0, aR ou] σ (wr_po e0 σ x L ou (fun v => v.toInt64) (oState A u0)) := by
  refine sg_180_0 (d := 7) ⟨ax_kd (xf h).1, wr_use (ct_44 h hJJ.1.1 u0) rfl (oState_le A u0) (fun i hi => ?_) (fun σ2 L' h0 h2 f2 => ?_) (fun h1 => wr_thr h h1 (oState_ex A u0 h1))⟩
  · have hi : i < 1 := hi
    have e : i = 0 := by omega
    subst e; rfl
  · have k2 : sgK σ2 ou = (22, 1) := by rw [f2.1.2.2.1 _ zo]; exact ko
    have i2 : ax_in σ2 22 ou 0 := ax_in_nI (i := 0) k2 (by decide) (by decide)
    exact sg_180_7 (d := 7) ⟨i2, wr_put h2 f2 h0 rfl⟩
theorem oJobState_le (A : MS) (u0 : Int32) (u1 : Int32) (u2 : Int32) : (oJobState A u0 u1 u2).1.1 ≤ 1 := by
  unfold oJobState
  repeat' apply oc_if
  all_goals first | exact Nat.zero_le _ | exact Nat.succ_le_succ (Nat.zero_le _) | exact Nat.succ_le_succ (Nat.succ_le_succ (Nat.zero_le _)) | exact Nat.succ_le_succ (Nat.succ_le_succ (Nat.succ_le_succ (Nat.zero_le _)))
theorem oJobState_ex (A : MS) (u0 : Int32) (u1 : Int32) (u2 : Int32) : 1 ≤ (oJobState A u0 u1 u2).1.1 → (oJobState A u0 u1 u2).2 = A := by
  unfold oJobState
  repeat' apply oc_ex
  all_goals first | exact fun _ => rfl | exact fun z => absurd z (Nat.not_succ_le_zero _)
theorem ct_181 (h : ax_rc e0 σ x L A) (hJJ : mJJ A) (hJ1 : mJ1 A) (hJR : mJR A) (hT : mTn A t) (he0 : sgK σ e0 = (23, 0)) (ko : sgK σ ou = (22, 1)) (zo : ou < sgZ σ) (u0 : Int32) (u1 : Int32) (u2 : Int32) : ax_ok e0 mo 10 181 [aR x, aI u0, aI u1, aI u2, aR ou] σ (wr_po e0 σ x L ou (fun v => v.toInt64) (oJobState A u0 u1 u2)) := by
  refine sg_181_0 (d := 9) ⟨ax_kd (xf h).1, wr_use (ct_45 h hJJ.1.1 hJJ.2.2.2.2.1 u0 u1 u2) rfl (oJobState_le A u0 u1 u2) (fun i hi => ?_) (fun σ2 L' h0 h2 f2 => ?_) (fun h1 => wr_thr h h1 (oJobState_ex A u0 u1 u2 h1))⟩
  · have hi : i < 1 := hi
    have e : i = 0 := by omega
    subst e; rfl
  · have k2 : sgK σ2 ou = (22, 1) := by rw [f2.1.2.2.1 _ zo]; exact ko
    have i2 : ax_in σ2 22 ou 0 := ax_in_nI (i := 0) k2 (by decide) (by decide)
    exact sg_181_10 (d := 9) ⟨i2, wr_put h2 f2 h0 rfl⟩
theorem oAttempts_le (A : MS) (u0 : Int32) (u1 : Int32) (u2 : Int32) : (oAttempts A u0 u1 u2).1.1 ≤ 1 := by
  unfold oAttempts
  repeat' apply oc_if
  all_goals first | exact Nat.zero_le _ | exact Nat.succ_le_succ (Nat.zero_le _) | exact Nat.succ_le_succ (Nat.succ_le_succ (Nat.zero_le _)) | exact Nat.succ_le_succ (Nat.succ_le_succ (Nat.succ_le_succ (Nat.zero_le _)))
theorem oAttempts_ex (A : MS) (u0 : Int32) (u1 : Int32) (u2 : Int32) : 1 ≤ (oAttempts A u0 u1 u2).1.1 → (oAttempts A u0 u1 u2).2 = A := by
  unfold oAttempts
  repeat' apply oc_ex
  all_goals first | exact fun _ => rfl | exact fun z => absurd z (Nat.not_succ_le_zero _)
theorem ct_182 (h : ax_rc e0 σ x L A) (hJJ : mJJ A) (hJ1 : mJ1 A) (hJR : mJR A) (hT : mTn A t) (he0 : sgK σ e0 = (23, 0)) (ko : sgK σ ou = (22, 1)) (zo : ou < sgZ σ) (u0 : Int32) (u1 : Int32) (u2 : Int32) : ax_ok e0 mo 10 182 [aR x, aI u0, aI u1, aI u2, aR ou] σ (wr_po e0 σ x L ou (fun v => v.toInt64) (oAttempts A u0 u1 u2)) := by
  refine sg_182_0 (d := 9) ⟨ax_kd (xf h).1, wr_use (ct_46 h hJJ.1.1 hJJ.2.2.2.2.1 u0 u1 u2) rfl (oAttempts_le A u0 u1 u2) (fun i hi => ?_) (fun σ2 L' h0 h2 f2 => ?_) (fun h1 => wr_thr h h1 (oAttempts_ex A u0 u1 u2 h1))⟩
  · have hi : i < 1 := hi
    have e : i = 0 := by omega
    subst e; rfl
  · have k2 : sgK σ2 ou = (22, 1) := by rw [f2.1.2.2.1 _ zo]; exact ko
    have i2 : ax_in σ2 22 ou 0 := ax_in_nI (i := 0) k2 (by decide) (by decide)
    exact sg_182_10 (d := 9) ⟨i2, wr_put h2 f2 h0 rfl⟩
theorem oRestored_le (A : MS) (u0 : Int32) (u1 : Int32) (u2 : Int32) : (oRestored A u0 u1 u2).1.1 ≤ 1 := by
  unfold oRestored
  repeat' apply oc_if
  all_goals first | exact Nat.zero_le _ | exact Nat.succ_le_succ (Nat.zero_le _) | exact Nat.succ_le_succ (Nat.succ_le_succ (Nat.zero_le _)) | exact Nat.succ_le_succ (Nat.succ_le_succ (Nat.succ_le_succ (Nat.zero_le _)))
theorem oRestored_ex (A : MS) (u0 : Int32) (u1 : Int32) (u2 : Int32) : 1 ≤ (oRestored A u0 u1 u2).1.1 → (oRestored A u0 u1 u2).2 = A := by
  unfold oRestored
  repeat' apply oc_ex
  all_goals first | exact fun _ => rfl | exact fun z => absurd z (Nat.not_succ_le_zero _)
theorem ct_183 (h : ax_rc e0 σ x L A) (hJJ : mJJ A) (hJ1 : mJ1 A) (hJR : mJR A) (hT : mTn A t) (he0 : sgK σ e0 = (23, 0)) (ko : sgK σ ou = (22, 1)) (zo : ou < sgZ σ) (u0 : Int32) (u1 : Int32) (u2 : Int32) : ax_ok e0 mo 10 183 [aR x, aI u0, aI u1, aI u2, aR ou] σ (wr_po e0 σ x L ou (fun v => v.toInt64) (oRestored A u0 u1 u2)) := by
  refine sg_183_0 (d := 9) ⟨ax_kd (xf h).1, wr_use (ct_47 h hJJ.1.1 hJJ.2.2.2.2.1 u0 u1 u2) rfl (oRestored_le A u0 u1 u2) (fun i hi => ?_) (fun σ2 L' h0 h2 f2 => ?_) (fun h1 => wr_thr h h1 (oRestored_ex A u0 u1 u2 h1))⟩
  · have hi : i < 1 := hi
    have e : i = 0 := by omega
    subst e; rfl
  · have k2 : sgK σ2 ou = (22, 1) := by rw [f2.1.2.2.1 _ zo]; exact ko
    have i2 : ax_in σ2 22 ou 0 := ax_in_nI (i := 0) k2 (by decide) (by decide)
    exact sg_183_10 (d := 9) ⟨i2, wr_put h2 f2 h0 rfl⟩
theorem oIsGood_le (A : MS) (u0 : Int32) (u1 : Int32) : (oIsGood A u0 u1).1.1 ≤ 1 := by
  unfold oIsGood
  repeat' apply oc_if
  all_goals first | exact Nat.zero_le _ | exact Nat.succ_le_succ (Nat.zero_le _) | exact Nat.succ_le_succ (Nat.succ_le_succ (Nat.zero_le _)) | exact Nat.succ_le_succ (Nat.succ_le_succ (Nat.succ_le_succ (Nat.zero_le _)))
theorem oIsGood_ex (A : MS) (u0 : Int32) (u1 : Int32) : 1 ≤ (oIsGood A u0 u1).1.1 → (oIsGood A u0 u1).2 = A := by
  unfold oIsGood
  repeat' apply oc_ex
  all_goals first | exact fun _ => rfl | exact fun z => absurd z (Nat.not_succ_le_zero _)
theorem ct_184 (h : ax_rc e0 σ x L A) (hJJ : mJJ A) (hJ1 : mJ1 A) (hJR : mJR A) (hT : mTn A t) (he0 : sgK σ e0 = (23, 0)) (ko : sgK σ ou = (22, 1)) (zo : ou < sgZ σ) (u0 : Int32) (u1 : Int32) : ax_ok e0 mo 9 184 [aR x, aI u0, aI u1, aR ou] σ (wr_po e0 σ x L ou (fun v => if v = 0 then Int64.ofNat 0 else Int64.ofNat 1) (oIsGood A u0 u1)) := by
  refine sg_184_0 (d := 8) ⟨ax_kd (xf h).1, wr_use (ct_48 h hJJ.1.1 hJJ.1.2.1 u0 u1) rfl (oIsGood_le A u0 u1) (fun i hi => ?_) (fun σ2 L' h0 h2 f2 => ?_) (fun h1 => wr_thr h h1 (oIsGood_ex A u0 u1 h1))⟩
  · have hi : i < 1 := hi
    have e : i = 0 := by omega
    subst e; rfl
  · have k2 : sgK σ2 ou = (22, 1) := by rw [f2.1.2.2.1 _ zo]; exact ko
    have i2 : ax_in σ2 22 ou 0 := ax_in_nI (i := 0) k2 (by decide) (by decide)
    exact sg_184_8 (d := 8) ⟨fun z => ⟨i2, wr_put h2 f2 h0 (if_pos z).symm⟩, fun z => ⟨i2, wr_put h2 f2 h0 (if_neg z).symm⟩⟩
theorem oArtifacts_le (A : MS) (u0 : Int32) (u1 : Int32) : (oArtifacts A u0 u1).1.1 ≤ 1 := by
  unfold oArtifacts
  repeat' apply oc_if
  all_goals first | exact Nat.zero_le _ | exact Nat.succ_le_succ (Nat.zero_le _) | exact Nat.succ_le_succ (Nat.succ_le_succ (Nat.zero_le _)) | exact Nat.succ_le_succ (Nat.succ_le_succ (Nat.succ_le_succ (Nat.zero_le _)))
theorem oArtifacts_ex (A : MS) (u0 : Int32) (u1 : Int32) : 1 ≤ (oArtifacts A u0 u1).1.1 → (oArtifacts A u0 u1).2 = A := by
  unfold oArtifacts
  repeat' apply oc_ex
  all_goals first | exact fun _ => rfl | exact fun z => absurd z (Nat.not_succ_le_zero _)
theorem ct_185 (h : ax_rc e0 σ x L A) (hJJ : mJJ A) (hJ1 : mJ1 A) (hJR : mJR A) (hT : mTn A t) (he0 : sgK σ e0 = (23, 0)) (ko : sgK σ ou = (22, 1)) (zo : ou < sgZ σ) (u0 : Int32) (u1 : Int32) : ax_ok e0 mo 9 185 [aR x, aI u0, aI u1, aR ou] σ (wr_po e0 σ x L ou (fun v => v.toInt64) (oArtifacts A u0 u1)) := by
  refine sg_185_0 (d := 8) ⟨ax_kd (xf h).1, wr_use (ct_49 h hJJ.1.1 hJJ.1.2.1 u0 u1) rfl (oArtifacts_le A u0 u1) (fun i hi => ?_) (fun σ2 L' h0 h2 f2 => ?_) (fun h1 => wr_thr h h1 (oArtifacts_ex A u0 u1 h1))⟩
  · have hi : i < 1 := hi
    have e : i = 0 := by omega
    subst e; rfl
  · have k2 : sgK σ2 ou = (22, 1) := by rw [f2.1.2.2.1 _ zo]; exact ko
    have i2 : ax_in σ2 22 ou 0 := ax_in_nI (i := 0) k2 (by decide) (by decide)
    exact sg_185_8 (d := 8) ⟨i2, wr_put h2 f2 h0 rfl⟩
theorem oQRun_le (A : MS) (u0 : Int32) : (oQRun A u0).1.1 ≤ 1 := by
  unfold oQRun
  repeat' apply oc_if
  all_goals first | exact Nat.zero_le _ | exact Nat.succ_le_succ (Nat.zero_le _) | exact Nat.succ_le_succ (Nat.succ_le_succ (Nat.zero_le _)) | exact Nat.succ_le_succ (Nat.succ_le_succ (Nat.succ_le_succ (Nat.zero_le _)))
theorem oQRun_ex (A : MS) (u0 : Int32) : 1 ≤ (oQRun A u0).1.1 → (oQRun A u0).2 = A := by
  unfold oQRun
  repeat' apply oc_ex
  all_goals first | exact fun _ => rfl | exact fun z => absurd z (Nat.not_succ_le_zero _)
theorem ct_186 (h : ax_rc e0 σ x L A) (hJJ : mJJ A) (hJ1 : mJ1 A) (hJR : mJR A) (hT : mTn A t) (he0 : sgK σ e0 = (23, 0)) (ko : sgK σ ou = (22, 1)) (zo : ou < sgZ σ) (u0 : Int32) : ax_ok e0 mo 8 186 [aR x, aI u0, aR ou] σ (wr_po e0 σ x L ou (fun v => v.toInt64) (oQRun A u0)) := by
  refine sg_186_0 (d := 7) ⟨ax_kd (xf h).1, wr_use (ct_51 h hJJ u0) rfl (oQRun_le A u0) (fun i hi => ?_) (fun σ2 L' h0 h2 f2 => ?_) (fun h1 => wr_thr h h1 (oQRun_ex A u0 h1))⟩
  · have hi : i < 1 := hi
    have e : i = 0 := by omega
    subst e; rfl
  · have k2 : sgK σ2 ou = (22, 1) := by rw [f2.1.2.2.1 _ zo]; exact ko
    have i2 : ax_in σ2 22 ou 0 := ax_in_nI (i := 0) k2 (by decide) (by decide)
    exact sg_186_7 (d := 7) ⟨i2, wr_put h2 f2 h0 rfl⟩
theorem oQStage_le (A : MS) (u0 : Int32) : (oQStage A u0).1.1 ≤ 1 := by
  unfold oQStage
  repeat' apply oc_if
  all_goals first | exact Nat.zero_le _ | exact Nat.succ_le_succ (Nat.zero_le _) | exact Nat.succ_le_succ (Nat.succ_le_succ (Nat.zero_le _)) | exact Nat.succ_le_succ (Nat.succ_le_succ (Nat.succ_le_succ (Nat.zero_le _)))
theorem oQStage_ex (A : MS) (u0 : Int32) : 1 ≤ (oQStage A u0).1.1 → (oQStage A u0).2 = A := by
  unfold oQStage
  repeat' apply oc_ex
  all_goals first | exact fun _ => rfl | exact fun z => absurd z (Nat.not_succ_le_zero _)
theorem ct_187 (h : ax_rc e0 σ x L A) (hJJ : mJJ A) (hJ1 : mJ1 A) (hJR : mJR A) (hT : mTn A t) (he0 : sgK σ e0 = (23, 0)) (ko : sgK σ ou = (22, 1)) (zo : ou < sgZ σ) (u0 : Int32) : ax_ok e0 mo 8 187 [aR x, aI u0, aR ou] σ (wr_po e0 σ x L ou (fun v => v.toInt64) (oQStage A u0)) := by
  refine sg_187_0 (d := 7) ⟨ax_kd (xf h).1, wr_use (ct_52 h hJJ u0) rfl (oQStage_le A u0) (fun i hi => ?_) (fun σ2 L' h0 h2 f2 => ?_) (fun h1 => wr_thr h h1 (oQStage_ex A u0 h1))⟩
  · have hi : i < 1 := hi
    have e : i = 0 := by omega
    subst e; rfl
  · have k2 : sgK σ2 ou = (22, 1) := by rw [f2.1.2.2.1 _ zo]; exact ko
    have i2 : ax_in σ2 22 ou 0 := ax_in_nI (i := 0) k2 (by decide) (by decide)
    exact sg_187_7 (d := 7) ⟨i2, wr_put h2 f2 h0 rfl⟩
theorem oTake_le (A : MS) (u0 : Int32) : (oTake A u0).1.1 ≤ 2 := by
  unfold oTake
  repeat' apply oc_if
  all_goals first | exact Nat.zero_le _ | exact Nat.succ_le_succ (Nat.zero_le _) | exact Nat.succ_le_succ (Nat.succ_le_succ (Nat.zero_le _)) | exact Nat.succ_le_succ (Nat.succ_le_succ (Nat.succ_le_succ (Nat.zero_le _)))
theorem oTake_ex (A : MS) (u0 : Int32) : 1 ≤ (oTake A u0).1.1 → (oTake A u0).2 = A := by
  unfold oTake
  repeat' apply oc_ex
  all_goals first | exact fun _ => rfl | exact fun z => absurd z (Nat.not_succ_le_zero _)
theorem ct_188 (h : ax_rc e0 σ x L A) (hJJ : mJJ A) (hJ1 : mJ1 A) (hJR : mJR A) (hT : mTn A t) (he0 : sgK σ e0 = (23, 0)) (ko : sgK σ ou = (22, 1)) (zo : ou < sgZ σ) (u0 : Int32) : ax_ok e0 mo 8 188 [aR x, aI u0, aR ou] σ (wr_po e0 σ x L ou (fun v => v.toInt64) (oTake A u0)) := by
  refine sg_188_0 (d := 7) ⟨ax_kd (xf h).1, wr_use (ct_53 h hJJ hJR u0) rfl (oTake_le A u0) (fun i hi => ?_) (fun σ2 L' h0 h2 f2 => ?_) (fun h1 => wr_thr h h1 (oTake_ex A u0 h1))⟩
  · have hi : i < 2 := hi
    have e : i = 0 ∨ i = 1 := by omega
    rcases e with rfl | rfl <;> rfl
  · have k2 : sgK σ2 ou = (22, 1) := by rw [f2.1.2.2.1 _ zo]; exact ko
    have i2 : ax_in σ2 22 ou 0 := ax_in_nI (i := 0) k2 (by decide) (by decide)
    exact sg_188_7 (d := 7) ⟨i2, wr_put h2 f2 h0 rfl⟩
theorem oFinish_le (A : MS) (u0 : Int32) (u1 : Bool) : (oFinish A u0 u1).1.1 ≤ 2 := by
  unfold oFinish
  repeat' apply oc_if
  all_goals first | exact Nat.zero_le _ | exact Nat.succ_le_succ (Nat.zero_le _) | exact Nat.succ_le_succ (Nat.succ_le_succ (Nat.zero_le _)) | exact Nat.succ_le_succ (Nat.succ_le_succ (Nat.succ_le_succ (Nat.zero_le _)))
theorem oFinish_ex (A : MS) (u0 : Int32) (u1 : Bool) : 1 ≤ (oFinish A u0 u1).1.1 → (oFinish A u0 u1).2 = A := by
  unfold oFinish
  repeat' apply oc_ex
  all_goals first | exact fun _ => rfl | exact fun z => absurd z (Nat.not_succ_le_zero _)
theorem ct_189 (h : ax_rc e0 σ x L A) (hJJ : mJJ A) (hJ1 : mJ1 A) (hJR : mJR A) (hT : mTn A t) (he0 : sgK σ e0 = (23, 0)) (ko : sgK σ ou = (22, 1)) (zo : ou < sgZ σ) (u0 : Int32) (u1 : Bool) : ax_ok e0 mo 11 189 [aR x, aI u0, aI (bI u1), aR ou] σ (wr_po e0 σ x L ou (fun v => v.toInt64) (oFinish A u0 u1)) := by
  refine sg_189_0 (d := 10) ⟨ax_kd (xf h).1, wr_use (ct_54 h hJJ u0 u1) rfl (oFinish_le A u0 u1) (fun i hi => ?_) (fun σ2 L' h0 h2 f2 => ?_) (fun h1 => wr_thr h h1 (oFinish_ex A u0 u1 h1))⟩
  · have hi : i < 2 := hi
    have e : i = 0 ∨ i = 1 := by omega
    rcases e with rfl | rfl <;> rfl
  · have k2 : sgK σ2 ou = (22, 1) := by rw [f2.1.2.2.1 _ zo]; exact ko
    have i2 : ax_in σ2 22 ou 0 := ax_in_nI (i := 0) k2 (by decide) (by decide)
    exact sg_189_8 (d := 10) ⟨i2, wr_put h2 f2 h0 rfl⟩
theorem oLose_le (A : MS) (u0 : Int32) : (oLose A u0).1.1 ≤ 2 := by
  unfold oLose
  repeat' apply oc_if
  all_goals first | exact Nat.zero_le _ | exact Nat.succ_le_succ (Nat.zero_le _) | exact Nat.succ_le_succ (Nat.succ_le_succ (Nat.zero_le _)) | exact Nat.succ_le_succ (Nat.succ_le_succ (Nat.succ_le_succ (Nat.zero_le _)))
theorem oLose_ex (A : MS) (u0 : Int32) : 1 ≤ (oLose A u0).1.1 → (oLose A u0).2 = A := by
  unfold oLose
  repeat' apply oc_ex
  all_goals first | exact fun _ => rfl | exact fun z => absurd z (Nat.not_succ_le_zero _)
theorem ct_190 (h : ax_rc e0 σ x L A) (hJJ : mJJ A) (hJ1 : mJ1 A) (hJR : mJR A) (hT : mTn A t) (he0 : sgK σ e0 = (23, 0)) (ko : sgK σ ou = (22, 1)) (zo : ou < sgZ σ) (u0 : Int32) : ax_ok e0 mo 11 190 [aR x, aI u0, aR ou] σ (wr_po e0 σ x L ou (fun v => v.toInt64) (oLose A u0)) := by
  refine sg_190_0 (d := 10) ⟨ax_kd (xf h).1, wr_use (ct_55 h hJJ u0) rfl (oLose_le A u0) (fun i hi => ?_) (fun σ2 L' h0 h2 f2 => ?_) (fun h1 => wr_thr h h1 (oLose_ex A u0 h1))⟩
  · have hi : i < 2 := hi
    have e : i = 0 ∨ i = 1 := by omega
    rcases e with rfl | rfl <;> rfl
  · have k2 : sgK σ2 ou = (22, 1) := by rw [f2.1.2.2.1 _ zo]; exact ko
    have i2 : ax_in σ2 22 ou 0 := ax_in_nI (i := 0) k2 (by decide) (by decide)
    exact sg_190_7 (d := 10) ⟨i2, wr_put h2 f2 h0 rfl⟩
theorem oWRun_le (A : MS) (u0 : Int32) : (oWRun A u0).1.1 ≤ 1 := by
  unfold oWRun
  repeat' apply oc_if
  all_goals first | exact Nat.zero_le _ | exact Nat.succ_le_succ (Nat.zero_le _) | exact Nat.succ_le_succ (Nat.succ_le_succ (Nat.zero_le _)) | exact Nat.succ_le_succ (Nat.succ_le_succ (Nat.succ_le_succ (Nat.zero_le _)))
theorem oWRun_ex (A : MS) (u0 : Int32) : 1 ≤ (oWRun A u0).1.1 → (oWRun A u0).2 = A := by
  unfold oWRun
  repeat' apply oc_ex
  all_goals first | exact fun _ => rfl | exact fun z => absurd z (Nat.not_succ_le_zero _)
theorem ct_191 (h : ax_rc e0 σ x L A) (hJJ : mJJ A) (hJ1 : mJ1 A) (hJR : mJR A) (hT : mTn A t) (he0 : sgK σ e0 = (23, 0)) (ko : sgK σ ou = (22, 1)) (zo : ou < sgZ σ) (u0 : Int32) : ax_ok e0 mo 8 191 [aR x, aI u0, aR ou] σ (wr_po e0 σ x L ou (fun v => v.toInt64) (oWRun A u0)) := by
  refine sg_191_0 (d := 7) ⟨ax_kd (xf h).1, wr_use (ct_56 h hJJ u0) rfl (oWRun_le A u0) (fun i hi => ?_) (fun σ2 L' h0 h2 f2 => ?_) (fun h1 => wr_thr h h1 (oWRun_ex A u0 h1))⟩
  · have hi : i < 1 := hi
    have e : i = 0 := by omega
    subst e; rfl
  · have k2 : sgK σ2 ou = (22, 1) := by rw [f2.1.2.2.1 _ zo]; exact ko
    have i2 : ax_in σ2 22 ou 0 := ax_in_nI (i := 0) k2 (by decide) (by decide)
    exact sg_191_7 (d := 7) ⟨i2, wr_put h2 f2 h0 rfl⟩
theorem oWStage_le (A : MS) (u0 : Int32) : (oWStage A u0).1.1 ≤ 1 := by
  unfold oWStage
  repeat' apply oc_if
  all_goals first | exact Nat.zero_le _ | exact Nat.succ_le_succ (Nat.zero_le _) | exact Nat.succ_le_succ (Nat.succ_le_succ (Nat.zero_le _)) | exact Nat.succ_le_succ (Nat.succ_le_succ (Nat.succ_le_succ (Nat.zero_le _)))
theorem oWStage_ex (A : MS) (u0 : Int32) : 1 ≤ (oWStage A u0).1.1 → (oWStage A u0).2 = A := by
  unfold oWStage
  repeat' apply oc_ex
  all_goals first | exact fun _ => rfl | exact fun z => absurd z (Nat.not_succ_le_zero _)
theorem ct_192 (h : ax_rc e0 σ x L A) (hJJ : mJJ A) (hJ1 : mJ1 A) (hJR : mJR A) (hT : mTn A t) (he0 : sgK σ e0 = (23, 0)) (ko : sgK σ ou = (22, 1)) (zo : ou < sgZ σ) (u0 : Int32) : ax_ok e0 mo 8 192 [aR x, aI u0, aR ou] σ (wr_po e0 σ x L ou (fun v => v.toInt64) (oWStage A u0)) := by
  refine sg_192_0 (d := 7) ⟨ax_kd (xf h).1, wr_use (ct_57 h hJJ u0) rfl (oWStage_le A u0) (fun i hi => ?_) (fun σ2 L' h0 h2 f2 => ?_) (fun h1 => wr_thr h h1 (oWStage_ex A u0 h1))⟩
  · have hi : i < 1 := hi
    have e : i = 0 := by omega
    subst e; rfl
  · have k2 : sgK σ2 ou = (22, 1) := by rw [f2.1.2.2.1 _ zo]; exact ko
    have i2 : ax_in σ2 22 ou 0 := ax_in_nI (i := 0) k2 (by decide) (by decide)
    exact sg_192_7 (d := 7) ⟨i2, wr_put h2 f2 h0 rfl⟩
theorem oEStage_le (A : MS) (u0 : Int32) : (oEStage A u0).1.1 ≤ 1 := by
  unfold oEStage
  repeat' apply oc_if
  all_goals first | exact Nat.zero_le _ | exact Nat.succ_le_succ (Nat.zero_le _) | exact Nat.succ_le_succ (Nat.succ_le_succ (Nat.zero_le _)) | exact Nat.succ_le_succ (Nat.succ_le_succ (Nat.succ_le_succ (Nat.zero_le _)))
theorem oEStage_ex (A : MS) (u0 : Int32) : 1 ≤ (oEStage A u0).1.1 → (oEStage A u0).2 = A := by
  unfold oEStage
  repeat' apply oc_ex
  all_goals first | exact fun _ => rfl | exact fun z => absurd z (Nat.not_succ_le_zero _)
theorem ct_193 (h : ax_rc e0 σ x L A) (hJJ : mJJ A) (hJ1 : mJ1 A) (hJR : mJR A) (hT : mTn A t) (he0 : sgK σ e0 = (23, 0)) (ko : sgK σ ou = (22, 1)) (zo : ou < sgZ σ) (u0 : Int32) : ax_ok e0 mo 8 193 [aR x, aI u0, aR ou] σ (wr_po e0 σ x L ou (fun v => v.toInt64) (oEStage A u0)) := by
  refine sg_193_0 (d := 7) ⟨ax_kd (xf h).1, wr_use (ct_59 h hJJ.2.2.2.2.2.1 u0) rfl (oEStage_le A u0) (fun i hi => ?_) (fun σ2 L' h0 h2 f2 => ?_) (fun h1 => wr_thr h h1 (oEStage_ex A u0 h1))⟩
  · have hi : i < 1 := hi
    have e : i = 0 := by omega
    subst e; rfl
  · have k2 : sgK σ2 ou = (22, 1) := by rw [f2.1.2.2.1 _ zo]; exact ko
    have i2 : ax_in σ2 22 ou 0 := ax_in_nI (i := 0) k2 (by decide) (by decide)
    exact sg_193_7 (d := 7) ⟨i2, wr_put h2 f2 h0 rfl⟩
theorem oEInput_le (A : MS) (u0 : Int32) (u1 : Int32) : (oEInput A u0 u1).1.1 ≤ 1 := by
  unfold oEInput
  repeat' apply oc_if
  all_goals first | exact Nat.zero_le _ | exact Nat.succ_le_succ (Nat.zero_le _) | exact Nat.succ_le_succ (Nat.succ_le_succ (Nat.zero_le _)) | exact Nat.succ_le_succ (Nat.succ_le_succ (Nat.succ_le_succ (Nat.zero_le _)))
theorem oEInput_ex (A : MS) (u0 : Int32) (u1 : Int32) : 1 ≤ (oEInput A u0 u1).1.1 → (oEInput A u0 u1).2 = A := by
  unfold oEInput
  repeat' apply oc_ex
  all_goals first | exact fun _ => rfl | exact fun z => absurd z (Nat.not_succ_le_zero _)
theorem ct_194 (h : ax_rc e0 σ x L A) (hJJ : mJJ A) (hJ1 : mJ1 A) (hJR : mJR A) (hT : mTn A t) (he0 : sgK σ e0 = (23, 0)) (ko : sgK σ ou = (22, 1)) (zo : ou < sgZ σ) (u0 : Int32) (u1 : Int32) : ax_ok e0 mo 8 194 [aR x, aI u0, aI u1, aR ou] σ (wr_po e0 σ x L ou (fun v => v.toInt64) (oEInput A u0 u1)) := by
  refine sg_194_0 (d := 7) ⟨ax_kd (xf h).1, wr_use (ct_60 h hJJ.2.2.2.2.2.1 u0 u1) rfl (oEInput_le A u0 u1) (fun i hi => ?_) (fun σ2 L' h0 h2 f2 => ?_) (fun h1 => wr_thr h h1 (oEInput_ex A u0 u1 h1))⟩
  · have hi : i < 1 := hi
    have e : i = 0 := by omega
    subst e; rfl
  · have k2 : sgK σ2 ou = (22, 1) := by rw [f2.1.2.2.1 _ zo]; exact ko
    have i2 : ax_in σ2 22 ou 0 := ax_in_nI (i := 0) k2 (by decide) (by decide)
    exact sg_194_8 (d := 7) ⟨i2, wr_put h2 f2 h0 rfl⟩
end
end AXWR
