/-! The cases of the law. Printed by wip/whole/gen79o.py. -/
section AXLWC
theorem cmp_self (x : Int64) : lg_cmp x x = 0 := by simp [lg_cmp]
theorem oc_sm {A : MS} {b : Bool} {o1 o2 : OC} (h1 : o1.2 = A) (h2 : o2.2 = A) : (bif b then o1 else o2).2 = A := by
  cases b
  · exact h2
  · exact h1
theorem aI_inj {a b : Int32} (h : aI a = aI b) : a = b := by injection h with h; injection h
section
variable {e0 mo scr x m ou len : Nat} {M : Nat → Nat} {B U n : Nat} {σ : SG} {L : LY} {A : MS}
theorem lw_c164 {i : Int32} {l5 l6 : AV} {Q : Res → SG → Prop} (h : lw e0 scr x m ou len M B U n σ L A) (hn : n < 1000) (in1 : ∀ s : SG, sgK s scr = (25, len) → ax_in s 25 scr (i + 1)) (in2 : ∀ s : SG, sgK s scr = (25, len) → ax_in s 25 scr (i + 2)) (in3 : ∀ s : SG, sgK s scr = (25, len) → ax_in s 25 scr (i + 3)) (in4 : ∀ s : SG, sgK s scr = (25, len) → ax_in s 25 scr (i + 4)) (k : ∀ σ3 L' A' l5 l6, lw e0 scr x m ou len M B U (n + 1) σ3 L' A' → ax_wp e0 mo 14 195 (1894, [aR scr, aR x, aR m, aR ou, aI i, l5, l6], []) σ3 Q) : ax_wp e0 mo 14 195 (164, [aR scr, aR x, aR m, aR ou, aI i, l5, l6], []) σ Q := by
  obtain ⟨hA, hm, hc, ⟨k1, k2, k3⟩, ⟨z1, z2, z3, z4, z5⟩, ne, b1, b2⟩ := id h
  refine sg_195_164 (d := 13) ⟨in1 σ k3, in2 σ k3, ?_⟩
  refine ax_use (ct_171 hc hA.1 hA.2.2.1 hA.2.2.2 hA.2.1 k2 k1 z3 (sgI σ 25 (i + 1).toNatClampNeg scr) (sgI σ 25 (i + 2).toNatClampNeg scr)) rfl fun w σ2 hw => ?_
  obtain ⟨rfl, L', g1, g2, g3, g4, g5⟩ := hw
  obtain ⟨r, q1, q2, q3, q4, q5⟩ := lw_mid h g3
  have hl := lw_addStage hA (sgI σ 25 (i + 1).toNatClampNeg scr) (sgI σ 25 (i + 2).toNatClampNeg scr)
  refine sg_195_181 (d := 13) ⟨in1 σ2 q3, in2 σ2 q3, ax_kd q4, ?_⟩
  rw [q5 (i + 1).toNatClampNeg, q5 (i + 2).toNatClampNeg]
  refine ax_use (ax_int me_92 (ct_92 r hA.1 (sgI σ 25 (i + 1).toNatClampNeg scr) (sgI σ 25 (i + 2).toNatClampNeg scr))) rfl fun v σ3 hv => ?_
  obtain ⟨⟨v1, v2, v3, v4⟩, a, rfl⟩ := hv
  obtain ⟨e1, e2, e3, e4⟩ := lw_end h g3 g1 g4 g5 v3 v4 hl
  refine sg_195_199 (d := 13) ⟨ax_kd e3, ax_use0 (ct_84 e3) rfl ?_⟩
  rw [v2]
  refine sg_195_205 (d := 13) ⟨fun _ => ⟨fun z => ⟨e4, ?_⟩, fun _ => k _ _ _ _ _ e1⟩, fun z => absurd rfl z⟩
  have hle := oAddStage_le A (sgI σ 25 (i + 1).toNatClampNeg scr) (sgI σ 25 (i + 2).toNatClampNeg scr)
  have z0 : (oAddStage A (sgI σ 25 (i + 1).toNatClampNeg scr) (sgI σ 25 (i + 2).toNatClampNeg scr)).1.1 = 0 := (nI_eq (b := 0) (by omega) (by decide)).mp z
  have va := aI_inj (v1 z0)
  have ec : lg_cmp (sgJ σ3 22 0 ou) a.toInt64 = 0 := by rw [e2, g2 z0, va]; exact cmp_self _
  exact ⟨fun _ => k _ _ _ _ _ e1, fun y => absurd ec y⟩
theorem lw_c232 {i : Int32} {l5 l6 : AV} {Q : Res → SG → Prop} (h : lw e0 scr x m ou len M B U n σ L A) (hn : n < 1000) (in1 : ∀ s : SG, sgK s scr = (25, len) → ax_in s 25 scr (i + 1)) (in2 : ∀ s : SG, sgK s scr = (25, len) → ax_in s 25 scr (i + 2)) (in3 : ∀ s : SG, sgK s scr = (25, len) → ax_in s 25 scr (i + 3)) (in4 : ∀ s : SG, sgK s scr = (25, len) → ax_in s 25 scr (i + 4)) (k : ∀ σ3 L' A' l5 l6, lw e0 scr x m ou len M B U (n + 1) σ3 L' A' → ax_wp e0 mo 14 195 (1894, [aR scr, aR x, aR m, aR ou, aI i, l5, l6], []) σ3 Q) : ax_wp e0 mo 14 195 (232, [aR scr, aR x, aR m, aR ou, aI i, l5, l6], []) σ Q := by
  obtain ⟨hA, hm, hc, ⟨k1, k2, k3⟩, ⟨z1, z2, z3, z4, z5⟩, ne, b1, b2⟩ := id h
  refine sg_195_232 (d := 13) ⟨in1 σ k3, in2 σ k3, ?_⟩
  refine ax_use (ct_172 hc hA.1 hA.2.2.1 hA.2.2.2 hA.2.1 k2 k1 z3 (sgI σ 25 (i + 1).toNatClampNeg scr) (sgI σ 25 (i + 2).toNatClampNeg scr)) rfl fun w σ2 hw => ?_
  obtain ⟨rfl, L', g1, g2, g3, g4, g5⟩ := hw
  obtain ⟨r, q1, q2, q3, q4, q5⟩ := lw_mid h g3
  have hl := lw_need hA (sgI σ 25 (i + 1).toNatClampNeg scr) (sgI σ 25 (i + 2).toNatClampNeg scr)
  refine sg_195_249 (d := 13) ⟨in1 σ2 q3, in2 σ2 q3, ax_kd q4, ?_⟩
  rw [q5 (i + 1).toNatClampNeg, q5 (i + 2).toNatClampNeg]
  refine ax_use (ax_int me_95 (ct_95 r hA.1 (sgI σ 25 (i + 1).toNatClampNeg scr) (sgI σ 25 (i + 2).toNatClampNeg scr))) rfl fun v σ3 hv => ?_
  obtain ⟨⟨v1, v2, v3, v4⟩, a, rfl⟩ := hv
  obtain ⟨e1, e2, e3, e4⟩ := lw_end h g3 g1 g4 g5 v3 v4 hl
  refine sg_195_267 (d := 13) ⟨ax_kd e3, ax_use0 (ct_84 e3) rfl ?_⟩
  rw [v2]
  refine sg_195_273 (d := 13) ⟨fun _ => ⟨fun z => ⟨e4, ?_⟩, fun _ => k _ _ _ _ _ e1⟩, fun z => absurd rfl z⟩
  have hle := oNeed_le A (sgI σ 25 (i + 1).toNatClampNeg scr) (sgI σ 25 (i + 2).toNatClampNeg scr)
  have z0 : (oNeed A (sgI σ 25 (i + 1).toNatClampNeg scr) (sgI σ 25 (i + 2).toNatClampNeg scr)).1.1 = 0 := (nI_eq (b := 0) (by omega) (by decide)).mp z
  have va := aI_inj (v1 z0)
  have ec : lg_cmp (sgJ σ3 22 0 ou) a.toInt64 = 0 := by rw [e2, g2 z0, va]; exact cmp_self _
  exact ⟨fun _ => k _ _ _ _ _ e1, fun y => absurd ec y⟩
theorem lw_c300 {i : Int32} {l5 l6 : AV} {Q : Res → SG → Prop} (h : lw e0 scr x m ou len M B U n σ L A) (hn : n < 1000) (in1 : ∀ s : SG, sgK s scr = (25, len) → ax_in s 25 scr (i + 1)) (in2 : ∀ s : SG, sgK s scr = (25, len) → ax_in s 25 scr (i + 2)) (in3 : ∀ s : SG, sgK s scr = (25, len) → ax_in s 25 scr (i + 3)) (in4 : ∀ s : SG, sgK s scr = (25, len) → ax_in s 25 scr (i + 4)) (k : ∀ σ3 L' A' l5 l6, lw e0 scr x m ou len M B U (n + 1) σ3 L' A' → ax_wp e0 mo 14 195 (1894, [aR scr, aR x, aR m, aR ou, aI i, l5, l6], []) σ3 Q) : ax_wp e0 mo 14 195 (300, [aR scr, aR x, aR m, aR ou, aI i, l5, l6], []) σ Q := by
  obtain ⟨hA, hm, hc, ⟨k1, k2, k3⟩, ⟨z1, z2, z3, z4, z5⟩, ne, b1, b2⟩ := id h
  refine sg_195_300 (d := 13) ⟨in1 σ k3, in2 σ k3, in3 σ k3, ?_⟩
  refine ax_use (ct_173 hc hA.1 hA.2.2.1 hA.2.2.2 hA.2.1 k2 k1 z3 (sgI σ 25 (i + 1).toNatClampNeg scr) (sgI σ 25 (i + 2).toNatClampNeg scr) (sgI σ 25 (i + 3).toNatClampNeg scr)) rfl fun w σ2 hw => ?_
  obtain ⟨rfl, L', g1, g2, g3, g4, g5⟩ := hw
  obtain ⟨r, q1, q2, q3, q4, q5⟩ := lw_mid h g3
  have hl := lw_exclude hA (sgI σ 25 (i + 1).toNatClampNeg scr) (sgI σ 25 (i + 2).toNatClampNeg scr) (sgI σ 25 (i + 3).toNatClampNeg scr)
  refine sg_195_323 (d := 13) ⟨in1 σ2 q3, in2 σ2 q3, in3 σ2 q3, ax_kd q4, ?_⟩
  rw [q5 (i + 1).toNatClampNeg, q5 (i + 2).toNatClampNeg, q5 (i + 3).toNatClampNeg]
  refine ax_use (ax_int me_97 (ct_97 r hA.1 (sgI σ 25 (i + 1).toNatClampNeg scr) (sgI σ 25 (i + 2).toNatClampNeg scr) (sgI σ 25 (i + 3).toNatClampNeg scr))) rfl fun v σ3 hv => ?_
  obtain ⟨⟨v1, v2, v3, v4⟩, a, rfl⟩ := hv
  obtain ⟨e1, e2, e3, e4⟩ := lw_end h g3 g1 g4 g5 v3 v4 hl
  refine sg_195_347 (d := 13) ⟨ax_kd e3, ax_use0 (ct_84 e3) rfl ?_⟩
  rw [v2]
  refine sg_195_353 (d := 13) ⟨fun _ => ⟨fun z => ⟨e4, ?_⟩, fun _ => k _ _ _ _ _ e1⟩, fun z => absurd rfl z⟩
  have hle := oExclude_le A (sgI σ 25 (i + 1).toNatClampNeg scr) (sgI σ 25 (i + 2).toNatClampNeg scr) (sgI σ 25 (i + 3).toNatClampNeg scr)
  have z0 : (oExclude A (sgI σ 25 (i + 1).toNatClampNeg scr) (sgI σ 25 (i + 2).toNatClampNeg scr) (sgI σ 25 (i + 3).toNatClampNeg scr)).1.1 = 0 := (nI_eq (b := 0) (by omega) (by decide)).mp z
  have va := aI_inj (v1 z0)
  have ec : lg_cmp (sgJ σ3 22 0 ou) a.toInt64 = 0 := by rw [e2, g2 z0, va]; exact cmp_self _
  exact ⟨fun _ => k _ _ _ _ _ e1, fun y => absurd ec y⟩
theorem lw_c380 {i : Int32} {l5 l6 : AV} {Q : Res → SG → Prop} (h : lw e0 scr x m ou len M B U n σ L A) (hn : n < 1000) (in1 : ∀ s : SG, sgK s scr = (25, len) → ax_in s 25 scr (i + 1)) (in2 : ∀ s : SG, sgK s scr = (25, len) → ax_in s 25 scr (i + 2)) (in3 : ∀ s : SG, sgK s scr = (25, len) → ax_in s 25 scr (i + 3)) (in4 : ∀ s : SG, sgK s scr = (25, len) → ax_in s 25 scr (i + 4)) (k : ∀ σ3 L' A' l5 l6, lw e0 scr x m ou len M B U (n + 1) σ3 L' A' → ax_wp e0 mo 14 195 (1894, [aR scr, aR x, aR m, aR ou, aI i, l5, l6], []) σ3 Q) : ax_wp e0 mo 14 195 (380, [aR scr, aR x, aR m, aR ou, aI i, l5, l6], []) σ Q := by
  obtain ⟨hA, hm, hc, ⟨k1, k2, k3⟩, ⟨z1, z2, z3, z4, z5⟩, ne, b1, b2⟩ := id h
  refine sg_195_380 (d := 13) ⟨in1 σ k3, in2 σ k3, in3 σ k3, ?_⟩
  refine ax_use (ct_174 hc hA.1 hA.2.2.1 hA.2.2.2 hA.2.1 k2 k1 z3 (sgI σ 25 (i + 1).toNatClampNeg scr) (sgI σ 25 (i + 2).toNatClampNeg scr) (sgI σ 25 (i + 3).toNatClampNeg scr)) rfl fun w σ2 hw => ?_
  obtain ⟨rfl, L', g1, g2, g3, g4, g5⟩ := hw
  obtain ⟨r, q1, q2, q3, q4, q5⟩ := lw_mid h g3
  have hl := lw_setStage hA (sgI σ 25 (i + 1).toNatClampNeg scr) (sgI σ 25 (i + 2).toNatClampNeg scr) (sgI σ 25 (i + 3).toNatClampNeg scr)
  refine sg_195_403 (d := 13) ⟨in1 σ2 q3, in2 σ2 q3, in3 σ2 q3, ax_kd q4, ?_⟩
  rw [q5 (i + 1).toNatClampNeg, q5 (i + 2).toNatClampNeg, q5 (i + 3).toNatClampNeg]
  refine ax_use (ax_int me_98 (ct_98 r hA.1 (sgI σ 25 (i + 1).toNatClampNeg scr) (sgI σ 25 (i + 2).toNatClampNeg scr) (sgI σ 25 (i + 3).toNatClampNeg scr))) rfl fun v σ3 hv => ?_
  obtain ⟨⟨v1, v2, v3, v4⟩, a, rfl⟩ := hv
  obtain ⟨e1, e2, e3, e4⟩ := lw_end h g3 g1 g4 g5 v3 v4 hl
  refine sg_195_427 (d := 13) ⟨ax_kd e3, ax_use0 (ct_84 e3) rfl ?_⟩
  rw [v2]
  refine sg_195_433 (d := 13) ⟨fun _ => ⟨fun z => ⟨e4, ?_⟩, fun _ => k _ _ _ _ _ e1⟩, fun z => absurd rfl z⟩
  have hle := oSetStage_le A (sgI σ 25 (i + 1).toNatClampNeg scr) (sgI σ 25 (i + 2).toNatClampNeg scr) (sgI σ 25 (i + 3).toNatClampNeg scr)
  have z0 : (oSetStage A (sgI σ 25 (i + 1).toNatClampNeg scr) (sgI σ 25 (i + 2).toNatClampNeg scr) (sgI σ 25 (i + 3).toNatClampNeg scr)).1.1 = 0 := (nI_eq (b := 0) (by omega) (by decide)).mp z
  have va := aI_inj (v1 z0)
  have ec : lg_cmp (sgJ σ3 22 0 ou) a.toInt64 = 0 := by rw [e2, g2 z0, va]; exact cmp_self _
  exact ⟨fun _ => k _ _ _ _ _ e1, fun y => absurd ec y⟩
theorem lw_c593 {i : Int32} {l5 l6 : AV} {Q : Res → SG → Prop} (h : lw e0 scr x m ou len M B U n σ L A) (hn : n < 1000) (in1 : ∀ s : SG, sgK s scr = (25, len) → ax_in s 25 scr (i + 1)) (in2 : ∀ s : SG, sgK s scr = (25, len) → ax_in s 25 scr (i + 2)) (in3 : ∀ s : SG, sgK s scr = (25, len) → ax_in s 25 scr (i + 3)) (in4 : ∀ s : SG, sgK s scr = (25, len) → ax_in s 25 scr (i + 4)) (k : ∀ σ3 L' A' l5 l6, lw e0 scr x m ou len M B U (n + 1) σ3 L' A' → ax_wp e0 mo 14 195 (1894, [aR scr, aR x, aR m, aR ou, aI i, l5, l6], []) σ3 Q) : ax_wp e0 mo 14 195 (593, [aR scr, aR x, aR m, aR ou, aI i, l5, l6], []) σ Q := by
  obtain ⟨hA, hm, hc, ⟨k1, k2, k3⟩, ⟨z1, z2, z3, z4, z5⟩, ne, b1, b2⟩ := id h
  refine sg_195_593 (d := 13) ⟨in1 σ k3, ?_⟩
  refine ax_use (ct_176 hc hA.1 hA.2.2.1 hA.2.2.2 hA.2.1 k2 k1 z3 (sgI σ 25 (i + 1).toNatClampNeg scr)) rfl fun w σ2 hw => ?_
  obtain ⟨rfl, L', g1, g2, g3, g4, g5⟩ := hw
  obtain ⟨r, q1, q2, q3, q4, q5⟩ := lw_mid h g3
  have hs : (oJobs A (sgI σ 25 (i + 1).toNatClampNeg scr)).2 = A := by
    unfold oJobs
    repeat' apply oc_sm
    all_goals rfl
  have hl : lwA (oJobs A (sgI σ 25 (i + 1).toNatClampNeg scr)).2 (n + 1) := by rw [hs]; exact lw_up hA
  refine sg_195_604 (d := 13) ⟨in1 σ2 q3, ax_kd q4, ?_⟩
  rw [q5 (i + 1).toNatClampNeg]
  refine ax_use (ax_int me_101 (ct_101 r hA.1.1.1 (sgI σ 25 (i + 1).toNatClampNeg scr))) rfl fun v σ3 hv => ?_
  obtain ⟨⟨v1, v2, v3, v4⟩, a, rfl⟩ := hv
  obtain ⟨e1, e2, e3, e4⟩ := lw_end h g3 g1 g4 g5 v3 v4 hl
  refine sg_195_616 (d := 13) ⟨ax_kd e3, ax_use0 (ct_84 e3) rfl ?_⟩
  rw [v2]
  refine sg_195_622 (d := 13) ⟨fun _ => ⟨fun z => ⟨e4, ?_⟩, fun _ => k _ _ _ _ _ e1⟩, fun z => absurd rfl z⟩
  have hle := oJobs_le A (sgI σ 25 (i + 1).toNatClampNeg scr)
  have z0 : (oJobs A (sgI σ 25 (i + 1).toNatClampNeg scr)).1.1 = 0 := (nI_eq (b := 0) (by omega) (by decide)).mp z
  have va := aI_inj (v1 z0)
  have ec : lg_cmp (sgJ σ3 22 0 ou) a.toInt64 = 0 := by rw [e2, g2 z0, va]; exact cmp_self _
  exact ⟨fun _ => k _ _ _ _ _ e1, fun y => absurd ec y⟩
theorem lw_c649 {i : Int32} {l5 l6 : AV} {Q : Res → SG → Prop} (h : lw e0 scr x m ou len M B U n σ L A) (hn : n < 1000) (in1 : ∀ s : SG, sgK s scr = (25, len) → ax_in s 25 scr (i + 1)) (in2 : ∀ s : SG, sgK s scr = (25, len) → ax_in s 25 scr (i + 2)) (in3 : ∀ s : SG, sgK s scr = (25, len) → ax_in s 25 scr (i + 3)) (in4 : ∀ s : SG, sgK s scr = (25, len) → ax_in s 25 scr (i + 4)) (k : ∀ σ3 L' A' l5 l6, lw e0 scr x m ou len M B U (n + 1) σ3 L' A' → ax_wp e0 mo 14 195 (1894, [aR scr, aR x, aR m, aR ou, aI i, l5, l6], []) σ3 Q) : ax_wp e0 mo 14 195 (649, [aR scr, aR x, aR m, aR ou, aI i, l5, l6], []) σ Q := by
  obtain ⟨hA, hm, hc, ⟨k1, k2, k3⟩, ⟨z1, z2, z3, z4, z5⟩, ne, b1, b2⟩ := id h
  refine sg_195_649 (d := 13) ⟨in1 σ k3, in2 σ k3, ?_⟩
  refine ax_use (ct_177 hc hA.1 hA.2.2.1 hA.2.2.2 hA.2.1 k2 k1 z3 (sgI σ 25 (i + 1).toNatClampNeg scr) (sgI σ 25 (i + 2).toNatClampNeg scr)) rfl fun w σ2 hw => ?_
  obtain ⟨rfl, L', g1, g2, g3, g4, g5⟩ := hw
  obtain ⟨r, q1, q2, q3, q4, q5⟩ := lw_mid h g3
  have hs : (oNeeds A (sgI σ 25 (i + 1).toNatClampNeg scr) (sgI σ 25 (i + 2).toNatClampNeg scr)).2 = A := by
    unfold oNeeds
    repeat' apply oc_sm
    all_goals rfl
  have hl : lwA (oNeeds A (sgI σ 25 (i + 1).toNatClampNeg scr) (sgI σ 25 (i + 2).toNatClampNeg scr)).2 (n + 1) := by rw [hs]; exact lw_up hA
  refine sg_195_666 (d := 13) ⟨in1 σ2 q3, in2 σ2 q3, ax_kd q4, ?_⟩
  rw [q5 (i + 1).toNatClampNeg, q5 (i + 2).toNatClampNeg]
  refine ax_use (ax_int me_102 (ct_102 r hA.1.1.1 (sgI σ 25 (i + 1).toNatClampNeg scr) (sgI σ 25 (i + 2).toNatClampNeg scr))) rfl fun v σ3 hv => ?_
  obtain ⟨⟨v1, v2, v3, v4⟩, a, rfl⟩ := hv
  obtain ⟨e1, e2, e3, e4⟩ := lw_end h g3 g1 g4 g5 v3 v4 hl
  refine sg_195_684 (d := 13) ⟨ax_kd e3, ax_use0 (ct_84 e3) rfl ?_⟩
  rw [v2]
  refine sg_195_690 (d := 13) ⟨fun _ => ⟨fun z => ⟨e4, ?_⟩, fun _ => k _ _ _ _ _ e1⟩, fun z => absurd rfl z⟩
  have hle := oNeeds_le A (sgI σ 25 (i + 1).toNatClampNeg scr) (sgI σ 25 (i + 2).toNatClampNeg scr)
  have z0 : (oNeeds A (sgI σ 25 (i + 1).toNatClampNeg scr) (sgI σ 25 (i + 2).toNatClampNeg scr)).1.1 = 0 := (nI_eq (b := 0) (by omega) (by decide)).mp z
  have va := aI_inj (v1 z0)
  have ec : sgJ σ2 22 0 ou = (if (oNeeds A (sgI σ 25 (i + 1).toNatClampNeg scr) (sgI σ 25 (i + 2).toNatClampNeg scr)).1.2 = 0 then Int64.ofNat 0 else Int64.ofNat 1) := g2 z0
  refine ⟨fun y => ⟨fun _ => k _ _ _ _ _ e1, fun y2 => absurd ?_ y2⟩, fun y => ⟨fun _ => k _ _ _ _ _ e1, fun y2 => absurd ?_ y2⟩⟩
  · show lg_cmp (sgJ σ3 22 0 ou) _ = 0
    rw [e2, ec, ← va, if_pos y]; exact cmp_self _
  · show lg_cmp (sgJ σ3 22 0 ou) _ = 0
    rw [e2, ec, ← va, if_neg y]; exact cmp_self _
theorem lw_c724 {i : Int32} {l5 l6 : AV} {Q : Res → SG → Prop} (h : lw e0 scr x m ou len M B U n σ L A) (hn : n < 1000) (in1 : ∀ s : SG, sgK s scr = (25, len) → ax_in s 25 scr (i + 1)) (in2 : ∀ s : SG, sgK s scr = (25, len) → ax_in s 25 scr (i + 2)) (in3 : ∀ s : SG, sgK s scr = (25, len) → ax_in s 25 scr (i + 3)) (in4 : ∀ s : SG, sgK s scr = (25, len) → ax_in s 25 scr (i + 4)) (k : ∀ σ3 L' A' l5 l6, lw e0 scr x m ou len M B U (n + 1) σ3 L' A' → ax_wp e0 mo 14 195 (1894, [aR scr, aR x, aR m, aR ou, aI i, l5, l6], []) σ3 Q) : ax_wp e0 mo 14 195 (724, [aR scr, aR x, aR m, aR ou, aI i, l5, l6], []) σ Q := by
  obtain ⟨hA, hm, hc, ⟨k1, k2, k3⟩, ⟨z1, z2, z3, z4, z5⟩, ne, b1, b2⟩ := id h
  refine sg_195_724 (d := 13) ⟨in1 σ k3, in2 σ k3, in3 σ k3, in4 σ k3, ?_⟩
  refine ax_use (ct_178 hc hA.1 hA.2.2.1 hA.2.2.2 hA.2.1 k2 k1 z3 (sgI σ 25 (i + 1).toNatClampNeg scr) (sgI σ 25 (i + 2).toNatClampNeg scr) (sgI σ 25 (i + 3).toNatClampNeg scr) (sgI σ 25 (i + 4).toNatClampNeg scr)) rfl fun w σ2 hw => ?_
  obtain ⟨rfl, L', g1, g2, g3, g4, g5⟩ := hw
  obtain ⟨r, q1, q2, q3, q4, q5⟩ := lw_mid h g3
  have hl := lw_push hA (sgI σ 25 (i + 1).toNatClampNeg scr) (sgI σ 25 (i + 2).toNatClampNeg scr) (sgI σ 25 (i + 3).toNatClampNeg scr) (sgI σ 25 (i + 4).toNatClampNeg scr)
  refine sg_195_753 (d := 13) ⟨in1 σ2 q3, in2 σ2 q3, in3 σ2 q3, in4 σ2 q3, ax_kd q4, ?_⟩
  rw [q5 (i + 1).toNatClampNeg, q5 (i + 2).toNatClampNeg, q5 (i + 3).toNatClampNeg, q5 (i + 4).toNatClampNeg]
  refine ax_use (ax_int me_119 (ct_119 r hA.1 hA.2.1 hn (sgI σ 25 (i + 1).toNatClampNeg scr) (sgI σ 25 (i + 2).toNatClampNeg scr) (sgI σ 25 (i + 3).toNatClampNeg scr) (sgI σ 25 (i + 4).toNatClampNeg scr))) rfl fun v σ3 hv => ?_
  obtain ⟨⟨v1, v2, v3, v4⟩, a, rfl⟩ := hv
  obtain ⟨e1, e2, e3, e4⟩ := lw_end h g3 g1 g4 g5 v3 v4 hl
  refine sg_195_783 (d := 13) ⟨ax_kd e3, ax_use0 (ct_84 e3) rfl ?_⟩
  rw [v2]
  refine sg_195_789 (d := 13) ⟨fun _ => ⟨fun z => ⟨e4, ?_⟩, fun _ => k _ _ _ _ _ e1⟩, fun z => absurd rfl z⟩
  have hle := oPush_le A (sgI σ 25 (i + 1).toNatClampNeg scr) (sgI σ 25 (i + 2).toNatClampNeg scr) (sgI σ 25 (i + 3).toNatClampNeg scr) (sgI σ 25 (i + 4).toNatClampNeg scr)
  have z0 : (oPush A (sgI σ 25 (i + 1).toNatClampNeg scr) (sgI σ 25 (i + 2).toNatClampNeg scr) (sgI σ 25 (i + 3).toNatClampNeg scr) (sgI σ 25 (i + 4).toNatClampNeg scr)).1.1 = 0 := (nI_eq (b := 0) (by omega) (by decide)).mp z
  have va := aI_inj (v1 z0)
  have ec : lg_cmp (sgJ σ3 22 0 ou) a.toInt64 = 0 := by rw [e2, g2 z0, va]; exact cmp_self _
  exact ⟨fun _ => k _ _ _ _ _ e1, fun y => absurd ec y⟩
theorem lw_c816 {i : Int32} {l5 l6 : AV} {Q : Res → SG → Prop} (h : lw e0 scr x m ou len M B U n σ L A) (hn : n < 1000) (in1 : ∀ s : SG, sgK s scr = (25, len) → ax_in s 25 scr (i + 1)) (in2 : ∀ s : SG, sgK s scr = (25, len) → ax_in s 25 scr (i + 2)) (in3 : ∀ s : SG, sgK s scr = (25, len) → ax_in s 25 scr (i + 3)) (in4 : ∀ s : SG, sgK s scr = (25, len) → ax_in s 25 scr (i + 4)) (k : ∀ σ3 L' A' l5 l6, lw e0 scr x m ou len M B U (n + 1) σ3 L' A' → ax_wp e0 mo 14 195 (1894, [aR scr, aR x, aR m, aR ou, aI i, l5, l6], []) σ3 Q) : ax_wp e0 mo 14 195 (816, [aR scr, aR x, aR m, aR ou, aI i, l5, l6], []) σ Q := by
  obtain ⟨hA, hm, hc, ⟨k1, k2, k3⟩, ⟨z1, z2, z3, z4, z5⟩, ne, b1, b2⟩ := id h
  refine sg_195_816 (d := 13) ⟨in1 σ k3, ?_⟩
  refine ax_use (ct_179 hc hA.1 hA.2.2.1 hA.2.2.2 hA.2.1 k2 k1 z3 (sgI σ 25 (i + 1).toNatClampNeg scr)) rfl fun w σ2 hw => ?_
  obtain ⟨rfl, L', g1, g2, g3, g4, g5⟩ := hw
  obtain ⟨r, q1, q2, q3, q4, q5⟩ := lw_mid h g3
  have hl := lw_cancel hA (sgI σ 25 (i + 1).toNatClampNeg scr)
  refine sg_195_827 (d := 13) ⟨in1 σ2 q3, ax_kd q4, ?_⟩
  rw [q5 (i + 1).toNatClampNeg]
  refine ax_use (ax_int me_121 (ct_121 r hA.1 (mTn_T hA.2.1 (by omega)) (sgI σ 25 (i + 1).toNatClampNeg scr))) rfl fun v σ3 hv => ?_
  obtain ⟨⟨v1, v2, v3, v4⟩, a, rfl⟩ := hv
  obtain ⟨e1, e2, e3, e4⟩ := lw_end h g3 g1 g4 g5 v3 v4 hl
  refine sg_195_839 (d := 13) ⟨ax_kd e3, ax_use0 (ct_84 e3) rfl ?_⟩
  rw [v2]
  refine sg_195_845 (d := 13) ⟨fun _ => ⟨fun z => ⟨e4, ?_⟩, fun _ => k _ _ _ _ _ e1⟩, fun z => absurd rfl z⟩
  have hle := oCancel_le A (sgI σ 25 (i + 1).toNatClampNeg scr)
  have z0 : (oCancel A (sgI σ 25 (i + 1).toNatClampNeg scr)).1.1 = 0 := (nI_eq (b := 0) (by omega) (by decide)).mp z
  have va := aI_inj (v1 z0)
  have ec : lg_cmp (sgJ σ3 22 0 ou) a.toInt64 = 0 := by rw [e2, g2 z0, va]; exact cmp_self _
  exact ⟨fun _ => k _ _ _ _ _ e1, fun y => absurd ec y⟩
theorem lw_c885 {i : Int32} {l5 l6 : AV} {Q : Res → SG → Prop} (h : lw e0 scr x m ou len M B U n σ L A) (hn : n < 1000) (in1 : ∀ s : SG, sgK s scr = (25, len) → ax_in s 25 scr (i + 1)) (in2 : ∀ s : SG, sgK s scr = (25, len) → ax_in s 25 scr (i + 2)) (in3 : ∀ s : SG, sgK s scr = (25, len) → ax_in s 25 scr (i + 3)) (in4 : ∀ s : SG, sgK s scr = (25, len) → ax_in s 25 scr (i + 4)) (k : ∀ σ3 L' A' l5 l6, lw e0 scr x m ou len M B U (n + 1) σ3 L' A' → ax_wp e0 mo 14 195 (1894, [aR scr, aR x, aR m, aR ou, aI i, l5, l6], []) σ3 Q) : ax_wp e0 mo 14 195 (885, [aR scr, aR x, aR m, aR ou, aI i, l5, l6], []) σ Q := by
  obtain ⟨hA, hm, hc, ⟨k1, k2, k3⟩, ⟨z1, z2, z3, z4, z5⟩, ne, b1, b2⟩ := id h
  refine sg_195_885 (d := 13) ⟨in1 σ k3, ?_⟩
  refine ax_use (ct_180 hc hA.1 hA.2.2.1 hA.2.2.2 hA.2.1 k2 k1 z3 (sgI σ 25 (i + 1).toNatClampNeg scr)) rfl fun w σ2 hw => ?_
  obtain ⟨rfl, L', g1, g2, g3, g4, g5⟩ := hw
  obtain ⟨r, q1, q2, q3, q4, q5⟩ := lw_mid h g3
  have hs : (oState A (sgI σ 25 (i + 1).toNatClampNeg scr)).2 = A := by
    unfold oState
    repeat' apply oc_sm
    all_goals rfl
  have hl : lwA (oState A (sgI σ 25 (i + 1).toNatClampNeg scr)).2 (n + 1) := by rw [hs]; exact lw_up hA
  refine sg_195_896 (d := 13) ⟨in1 σ2 q3, ax_kd q4, ?_⟩
  rw [q5 (i + 1).toNatClampNeg]
  refine ax_use (ax_int me_123 (ct_123 r hA.1.1.1 (sgI σ 25 (i + 1).toNatClampNeg scr))) rfl fun v σ3 hv => ?_
  obtain ⟨⟨v1, v2, v3, v4⟩, a, rfl⟩ := hv
  obtain ⟨e1, e2, e3, e4⟩ := lw_end h g3 g1 g4 g5 v3 v4 hl
  refine sg_195_908 (d := 13) ⟨ax_kd e3, ax_use0 (ct_84 e3) rfl ?_⟩
  rw [v2]
  refine sg_195_914 (d := 13) ⟨fun _ => ⟨fun z => ⟨e4, ?_⟩, fun _ => k _ _ _ _ _ e1⟩, fun z => absurd rfl z⟩
  have hle := oState_le A (sgI σ 25 (i + 1).toNatClampNeg scr)
  have z0 : (oState A (sgI σ 25 (i + 1).toNatClampNeg scr)).1.1 = 0 := (nI_eq (b := 0) (by omega) (by decide)).mp z
  have va := aI_inj (v1 z0)
  have ec : lg_cmp (sgJ σ3 22 0 ou) a.toInt64 = 0 := by rw [e2, g2 z0, va]; exact cmp_self _
  exact ⟨fun _ => k _ _ _ _ _ e1, fun y => absurd ec y⟩
theorem lw_c941 {i : Int32} {l5 l6 : AV} {Q : Res → SG → Prop} (h : lw e0 scr x m ou len M B U n σ L A) (hn : n < 1000) (in1 : ∀ s : SG, sgK s scr = (25, len) → ax_in s 25 scr (i + 1)) (in2 : ∀ s : SG, sgK s scr = (25, len) → ax_in s 25 scr (i + 2)) (in3 : ∀ s : SG, sgK s scr = (25, len) → ax_in s 25 scr (i + 3)) (in4 : ∀ s : SG, sgK s scr = (25, len) → ax_in s 25 scr (i + 4)) (k : ∀ σ3 L' A' l5 l6, lw e0 scr x m ou len M B U (n + 1) σ3 L' A' → ax_wp e0 mo 14 195 (1894, [aR scr, aR x, aR m, aR ou, aI i, l5, l6], []) σ3 Q) : ax_wp e0 mo 14 195 (941, [aR scr, aR x, aR m, aR ou, aI i, l5, l6], []) σ Q := by
  obtain ⟨hA, hm, hc, ⟨k1, k2, k3⟩, ⟨z1, z2, z3, z4, z5⟩, ne, b1, b2⟩ := id h
  refine sg_195_941 (d := 13) ⟨in1 σ k3, in2 σ k3, in3 σ k3, ?_⟩
  refine ax_use (ct_181 hc hA.1 hA.2.2.1 hA.2.2.2 hA.2.1 k2 k1 z3 (sgI σ 25 (i + 1).toNatClampNeg scr) (sgI σ 25 (i + 2).toNatClampNeg scr) (sgI σ 25 (i + 3).toNatClampNeg scr)) rfl fun w σ2 hw => ?_
  obtain ⟨rfl, L', g1, g2, g3, g4, g5⟩ := hw
  obtain ⟨r, q1, q2, q3, q4, q5⟩ := lw_mid h g3
  have hs : (oJobState A (sgI σ 25 (i + 1).toNatClampNeg scr) (sgI σ 25 (i + 2).toNatClampNeg scr) (sgI σ 25 (i + 3).toNatClampNeg scr)).2 = A := by
    unfold oJobState
    repeat' apply oc_sm
    all_goals rfl
  have hl : lwA (oJobState A (sgI σ 25 (i + 1).toNatClampNeg scr) (sgI σ 25 (i + 2).toNatClampNeg scr) (sgI σ 25 (i + 3).toNatClampNeg scr)).2 (n + 1) := by rw [hs]; exact lw_up hA
  refine sg_195_964 (d := 13) ⟨in1 σ2 q3, in2 σ2 q3, in3 σ2 q3, ax_kd q4, ?_⟩
  rw [q5 (i + 1).toNatClampNeg, q5 (i + 2).toNatClampNeg, q5 (i + 3).toNatClampNeg]
  refine ax_use (ax_int me_125 (ct_125 r hA.1.1.1 (mTn_T hA.2.1 (by omega)) (sgI σ 25 (i + 1).toNatClampNeg scr) (sgI σ 25 (i + 2).toNatClampNeg scr) (sgI σ 25 (i + 3).toNatClampNeg scr))) rfl fun v σ3 hv => ?_
  obtain ⟨⟨v1, v2, v3, v4⟩, a, rfl⟩ := hv
  obtain ⟨e1, e2, e3, e4⟩ := lw_end h g3 g1 g4 g5 v3 v4 hl
  refine sg_195_988 (d := 13) ⟨ax_kd e3, ax_use0 (ct_84 e3) rfl ?_⟩
  rw [v2]
  refine sg_195_994 (d := 13) ⟨fun _ => ⟨fun z => ⟨e4, ?_⟩, fun _ => k _ _ _ _ _ e1⟩, fun z => absurd rfl z⟩
  have hle := oJobState_le A (sgI σ 25 (i + 1).toNatClampNeg scr) (sgI σ 25 (i + 2).toNatClampNeg scr) (sgI σ 25 (i + 3).toNatClampNeg scr)
  have z0 : (oJobState A (sgI σ 25 (i + 1).toNatClampNeg scr) (sgI σ 25 (i + 2).toNatClampNeg scr) (sgI σ 25 (i + 3).toNatClampNeg scr)).1.1 = 0 := (nI_eq (b := 0) (by omega) (by decide)).mp z
  have va := aI_inj (v1 z0)
  have ec : lg_cmp (sgJ σ3 22 0 ou) a.toInt64 = 0 := by rw [e2, g2 z0, va]; exact cmp_self _
  exact ⟨fun _ => k _ _ _ _ _ e1, fun y => absurd ec y⟩
theorem lw_c1021 {i : Int32} {l5 l6 : AV} {Q : Res → SG → Prop} (h : lw e0 scr x m ou len M B U n σ L A) (hn : n < 1000) (in1 : ∀ s : SG, sgK s scr = (25, len) → ax_in s 25 scr (i + 1)) (in2 : ∀ s : SG, sgK s scr = (25, len) → ax_in s 25 scr (i + 2)) (in3 : ∀ s : SG, sgK s scr = (25, len) → ax_in s 25 scr (i + 3)) (in4 : ∀ s : SG, sgK s scr = (25, len) → ax_in s 25 scr (i + 4)) (k : ∀ σ3 L' A' l5 l6, lw e0 scr x m ou len M B U (n + 1) σ3 L' A' → ax_wp e0 mo 14 195 (1894, [aR scr, aR x, aR m, aR ou, aI i, l5, l6], []) σ3 Q) : ax_wp e0 mo 14 195 (1021, [aR scr, aR x, aR m, aR ou, aI i, l5, l6], []) σ Q := by
  obtain ⟨hA, hm, hc, ⟨k1, k2, k3⟩, ⟨z1, z2, z3, z4, z5⟩, ne, b1, b2⟩ := id h
  refine sg_195_1021 (d := 13) ⟨in1 σ k3, in2 σ k3, in3 σ k3, ?_⟩
  refine ax_use (ct_182 hc hA.1 hA.2.2.1 hA.2.2.2 hA.2.1 k2 k1 z3 (sgI σ 25 (i + 1).toNatClampNeg scr) (sgI σ 25 (i + 2).toNatClampNeg scr) (sgI σ 25 (i + 3).toNatClampNeg scr)) rfl fun w σ2 hw => ?_
  obtain ⟨rfl, L', g1, g2, g3, g4, g5⟩ := hw
  obtain ⟨r, q1, q2, q3, q4, q5⟩ := lw_mid h g3
  have hs : (oAttempts A (sgI σ 25 (i + 1).toNatClampNeg scr) (sgI σ 25 (i + 2).toNatClampNeg scr) (sgI σ 25 (i + 3).toNatClampNeg scr)).2 = A := by
    unfold oAttempts
    repeat' apply oc_sm
    all_goals rfl
  have hl : lwA (oAttempts A (sgI σ 25 (i + 1).toNatClampNeg scr) (sgI σ 25 (i + 2).toNatClampNeg scr) (sgI σ 25 (i + 3).toNatClampNeg scr)).2 (n + 1) := by rw [hs]; exact lw_up hA
  refine sg_195_1044 (d := 13) ⟨in1 σ2 q3, in2 σ2 q3, in3 σ2 q3, ax_kd q4, ?_⟩
  rw [q5 (i + 1).toNatClampNeg, q5 (i + 2).toNatClampNeg, q5 (i + 3).toNatClampNeg]
  refine ax_use (ax_int me_126 (ct_126 r hA.1.1.1 (mTn_T hA.2.1 (by omega)) (sgI σ 25 (i + 1).toNatClampNeg scr) (sgI σ 25 (i + 2).toNatClampNeg scr) (sgI σ 25 (i + 3).toNatClampNeg scr))) rfl fun v σ3 hv => ?_
  obtain ⟨⟨v1, v2, v3, v4⟩, a, rfl⟩ := hv
  obtain ⟨e1, e2, e3, e4⟩ := lw_end h g3 g1 g4 g5 v3 v4 hl
  refine sg_195_1068 (d := 13) ⟨ax_kd e3, ax_use0 (ct_84 e3) rfl ?_⟩
  rw [v2]
  refine sg_195_1074 (d := 13) ⟨fun _ => ⟨fun z => ⟨e4, ?_⟩, fun _ => k _ _ _ _ _ e1⟩, fun z => absurd rfl z⟩
  have hle := oAttempts_le A (sgI σ 25 (i + 1).toNatClampNeg scr) (sgI σ 25 (i + 2).toNatClampNeg scr) (sgI σ 25 (i + 3).toNatClampNeg scr)
  have z0 : (oAttempts A (sgI σ 25 (i + 1).toNatClampNeg scr) (sgI σ 25 (i + 2).toNatClampNeg scr) (sgI σ 25 (i + 3).toNatClampNeg scr)).1.1 = 0 := (nI_eq (b := 0) (by omega) (by decide)).mp z
  have va := aI_inj (v1 z0)
  have ec : lg_cmp (sgJ σ3 22 0 ou) a.toInt64 = 0 := by rw [e2, g2 z0, va]; exact cmp_self _
  exact ⟨fun _ => k _ _ _ _ _ e1, fun y => absurd ec y⟩
theorem lw_c1101 {i : Int32} {l5 l6 : AV} {Q : Res → SG → Prop} (h : lw e0 scr x m ou len M B U n σ L A) (hn : n < 1000) (in1 : ∀ s : SG, sgK s scr = (25, len) → ax_in s 25 scr (i + 1)) (in2 : ∀ s : SG, sgK s scr = (25, len) → ax_in s 25 scr (i + 2)) (in3 : ∀ s : SG, sgK s scr = (25, len) → ax_in s 25 scr (i + 3)) (in4 : ∀ s : SG, sgK s scr = (25, len) → ax_in s 25 scr (i + 4)) (k : ∀ σ3 L' A' l5 l6, lw e0 scr x m ou len M B U (n + 1) σ3 L' A' → ax_wp e0 mo 14 195 (1894, [aR scr, aR x, aR m, aR ou, aI i, l5, l6], []) σ3 Q) : ax_wp e0 mo 14 195 (1101, [aR scr, aR x, aR m, aR ou, aI i, l5, l6], []) σ Q := by
  obtain ⟨hA, hm, hc, ⟨k1, k2, k3⟩, ⟨z1, z2, z3, z4, z5⟩, ne, b1, b2⟩ := id h
  refine sg_195_1101 (d := 13) ⟨in1 σ k3, in2 σ k3, in3 σ k3, ?_⟩
  refine ax_use (ct_183 hc hA.1 hA.2.2.1 hA.2.2.2 hA.2.1 k2 k1 z3 (sgI σ 25 (i + 1).toNatClampNeg scr) (sgI σ 25 (i + 2).toNatClampNeg scr) (sgI σ 25 (i + 3).toNatClampNeg scr)) rfl fun w σ2 hw => ?_
  obtain ⟨rfl, L', g1, g2, g3, g4, g5⟩ := hw
  obtain ⟨r, q1, q2, q3, q4, q5⟩ := lw_mid h g3
  have hs : (oRestored A (sgI σ 25 (i + 1).toNatClampNeg scr) (sgI σ 25 (i + 2).toNatClampNeg scr) (sgI σ 25 (i + 3).toNatClampNeg scr)).2 = A := by
    unfold oRestored
    repeat' apply oc_sm
    all_goals rfl
  have hl : lwA (oRestored A (sgI σ 25 (i + 1).toNatClampNeg scr) (sgI σ 25 (i + 2).toNatClampNeg scr) (sgI σ 25 (i + 3).toNatClampNeg scr)).2 (n + 1) := by rw [hs]; exact lw_up hA
  refine sg_195_1124 (d := 13) ⟨in1 σ2 q3, in2 σ2 q3, in3 σ2 q3, ax_kd q4, ?_⟩
  rw [q5 (i + 1).toNatClampNeg, q5 (i + 2).toNatClampNeg, q5 (i + 3).toNatClampNeg]
  refine ax_use (ax_int me_127 (ct_127 r hA.1.1.1 (mTn_T hA.2.1 (by omega)) (sgI σ 25 (i + 1).toNatClampNeg scr) (sgI σ 25 (i + 2).toNatClampNeg scr) (sgI σ 25 (i + 3).toNatClampNeg scr))) rfl fun v σ3 hv => ?_
  obtain ⟨⟨v1, v2, v3, v4⟩, a, rfl⟩ := hv
  obtain ⟨e1, e2, e3, e4⟩ := lw_end h g3 g1 g4 g5 v3 v4 hl
  refine sg_195_1148 (d := 13) ⟨ax_kd e3, ax_use0 (ct_84 e3) rfl ?_⟩
  rw [v2]
  refine sg_195_1154 (d := 13) ⟨fun _ => ⟨fun z => ⟨e4, ?_⟩, fun _ => k _ _ _ _ _ e1⟩, fun z => absurd rfl z⟩
  have hle := oRestored_le A (sgI σ 25 (i + 1).toNatClampNeg scr) (sgI σ 25 (i + 2).toNatClampNeg scr) (sgI σ 25 (i + 3).toNatClampNeg scr)
  have z0 : (oRestored A (sgI σ 25 (i + 1).toNatClampNeg scr) (sgI σ 25 (i + 2).toNatClampNeg scr) (sgI σ 25 (i + 3).toNatClampNeg scr)).1.1 = 0 := (nI_eq (b := 0) (by omega) (by decide)).mp z
  have va := aI_inj (v1 z0)
  have ec : lg_cmp (sgJ σ3 22 0 ou) a.toInt64 = 0 := by rw [e2, g2 z0, va]; exact cmp_self _
  exact ⟨fun _ => k _ _ _ _ _ e1, fun y => absurd ec y⟩
theorem lw_c1181 {i : Int32} {l5 l6 : AV} {Q : Res → SG → Prop} (h : lw e0 scr x m ou len M B U n σ L A) (hn : n < 1000) (in1 : ∀ s : SG, sgK s scr = (25, len) → ax_in s 25 scr (i + 1)) (in2 : ∀ s : SG, sgK s scr = (25, len) → ax_in s 25 scr (i + 2)) (in3 : ∀ s : SG, sgK s scr = (25, len) → ax_in s 25 scr (i + 3)) (in4 : ∀ s : SG, sgK s scr = (25, len) → ax_in s 25 scr (i + 4)) (k : ∀ σ3 L' A' l5 l6, lw e0 scr x m ou len M B U (n + 1) σ3 L' A' → ax_wp e0 mo 14 195 (1894, [aR scr, aR x, aR m, aR ou, aI i, l5, l6], []) σ3 Q) : ax_wp e0 mo 14 195 (1181, [aR scr, aR x, aR m, aR ou, aI i, l5, l6], []) σ Q := by
  obtain ⟨hA, hm, hc, ⟨k1, k2, k3⟩, ⟨z1, z2, z3, z4, z5⟩, ne, b1, b2⟩ := id h
  refine sg_195_1181 (d := 13) ⟨in1 σ k3, in2 σ k3, ?_⟩
  refine ax_use (ct_184 hc hA.1 hA.2.2.1 hA.2.2.2 hA.2.1 k2 k1 z3 (sgI σ 25 (i + 1).toNatClampNeg scr) (sgI σ 25 (i + 2).toNatClampNeg scr)) rfl fun w σ2 hw => ?_
  obtain ⟨rfl, L', g1, g2, g3, g4, g5⟩ := hw
  obtain ⟨r, q1, q2, q3, q4, q5⟩ := lw_mid h g3
  have hs : (oIsGood A (sgI σ 25 (i + 1).toNatClampNeg scr) (sgI σ 25 (i + 2).toNatClampNeg scr)).2 = A := by
    unfold oIsGood
    repeat' apply oc_sm
    all_goals rfl
  have hl : lwA (oIsGood A (sgI σ 25 (i + 1).toNatClampNeg scr) (sgI σ 25 (i + 2).toNatClampNeg scr)).2 (n + 1) := by rw [hs]; exact lw_up hA
  refine sg_195_1198 (d := 13) ⟨in1 σ2 q3, in2 σ2 q3, ax_kd q4, ?_⟩
  rw [q5 (i + 1).toNatClampNeg, q5 (i + 2).toNatClampNeg]
  refine ax_use (ax_int me_129 (ct_129 r hA.1.1.1 (mTn_T hA.2.1 (by omega)) hA.1.1.2.2 hA.1.2.2.2.2.2.2 (sgI σ 25 (i + 1).toNatClampNeg scr) (sgI σ 25 (i + 2).toNatClampNeg scr))) rfl fun v σ3 hv => ?_
  obtain ⟨⟨v1, v2, v3, v4⟩, a, rfl⟩ := hv
  obtain ⟨e1, e2, e3, e4⟩ := lw_end h g3 g1 g4 g5 v3 v4 hl
  refine sg_195_1216 (d := 13) ⟨ax_kd e3, ax_use0 (ct_84 e3) rfl ?_⟩
  rw [v2]
  refine sg_195_1222 (d := 13) ⟨fun _ => ⟨fun z => ⟨e4, ?_⟩, fun _ => k _ _ _ _ _ e1⟩, fun z => absurd rfl z⟩
  have hle := oIsGood_le A (sgI σ 25 (i + 1).toNatClampNeg scr) (sgI σ 25 (i + 2).toNatClampNeg scr)
  have z0 : (oIsGood A (sgI σ 25 (i + 1).toNatClampNeg scr) (sgI σ 25 (i + 2).toNatClampNeg scr)).1.1 = 0 := (nI_eq (b := 0) (by omega) (by decide)).mp z
  have va := aI_inj (v1 z0)
  have ec : sgJ σ2 22 0 ou = (if (oIsGood A (sgI σ 25 (i + 1).toNatClampNeg scr) (sgI σ 25 (i + 2).toNatClampNeg scr)).1.2 = 0 then Int64.ofNat 0 else Int64.ofNat 1) := g2 z0
  refine ⟨fun y => ⟨fun _ => k _ _ _ _ _ e1, fun y2 => absurd ?_ y2⟩, fun y => ⟨fun _ => k _ _ _ _ _ e1, fun y2 => absurd ?_ y2⟩⟩
  · show lg_cmp (sgJ σ3 22 0 ou) _ = 0
    rw [e2, ec, ← va, if_pos y]; exact cmp_self _
  · show lg_cmp (sgJ σ3 22 0 ou) _ = 0
    rw [e2, ec, ← va, if_neg y]; exact cmp_self _
theorem lw_c1256 {i : Int32} {l5 l6 : AV} {Q : Res → SG → Prop} (h : lw e0 scr x m ou len M B U n σ L A) (hn : n < 1000) (in1 : ∀ s : SG, sgK s scr = (25, len) → ax_in s 25 scr (i + 1)) (in2 : ∀ s : SG, sgK s scr = (25, len) → ax_in s 25 scr (i + 2)) (in3 : ∀ s : SG, sgK s scr = (25, len) → ax_in s 25 scr (i + 3)) (in4 : ∀ s : SG, sgK s scr = (25, len) → ax_in s 25 scr (i + 4)) (k : ∀ σ3 L' A' l5 l6, lw e0 scr x m ou len M B U (n + 1) σ3 L' A' → ax_wp e0 mo 14 195 (1894, [aR scr, aR x, aR m, aR ou, aI i, l5, l6], []) σ3 Q) : ax_wp e0 mo 14 195 (1256, [aR scr, aR x, aR m, aR ou, aI i, l5, l6], []) σ Q := by
  obtain ⟨hA, hm, hc, ⟨k1, k2, k3⟩, ⟨z1, z2, z3, z4, z5⟩, ne, b1, b2⟩ := id h
  refine sg_195_1256 (d := 13) ⟨in1 σ k3, in2 σ k3, ?_⟩
  refine ax_use (ct_185 hc hA.1 hA.2.2.1 hA.2.2.2 hA.2.1 k2 k1 z3 (sgI σ 25 (i + 1).toNatClampNeg scr) (sgI σ 25 (i + 2).toNatClampNeg scr)) rfl fun w σ2 hw => ?_
  obtain ⟨rfl, L', g1, g2, g3, g4, g5⟩ := hw
  obtain ⟨r, q1, q2, q3, q4, q5⟩ := lw_mid h g3
  have hs : (oArtifacts A (sgI σ 25 (i + 1).toNatClampNeg scr) (sgI σ 25 (i + 2).toNatClampNeg scr)).2 = A := by
    unfold oArtifacts
    repeat' apply oc_sm
    all_goals rfl
  have hl : lwA (oArtifacts A (sgI σ 25 (i + 1).toNatClampNeg scr) (sgI σ 25 (i + 2).toNatClampNeg scr)).2 (n + 1) := by rw [hs]; exact lw_up hA
  refine sg_195_1273 (d := 13) ⟨in1 σ2 q3, in2 σ2 q3, ax_kd q4, ?_⟩
  rw [q5 (i + 1).toNatClampNeg, q5 (i + 2).toNatClampNeg]
  refine ax_use (ax_int me_130 (ct_130 r hA.1.1.1 (mTn_T hA.2.1 (by omega)) hA.1.1.2.1 (sgI σ 25 (i + 1).toNatClampNeg scr) (sgI σ 25 (i + 2).toNatClampNeg scr))) rfl fun v σ3 hv => ?_
  obtain ⟨⟨v1, v2, v3, v4⟩, a, rfl⟩ := hv
  obtain ⟨e1, e2, e3, e4⟩ := lw_end h g3 g1 g4 g5 v3 v4 hl
  refine sg_195_1291 (d := 13) ⟨ax_kd e3, ax_use0 (ct_84 e3) rfl ?_⟩
  rw [v2]
  refine sg_195_1297 (d := 13) ⟨fun _ => ⟨fun z => ⟨e4, ?_⟩, fun _ => k _ _ _ _ _ e1⟩, fun z => absurd rfl z⟩
  have hle := oArtifacts_le A (sgI σ 25 (i + 1).toNatClampNeg scr) (sgI σ 25 (i + 2).toNatClampNeg scr)
  have z0 : (oArtifacts A (sgI σ 25 (i + 1).toNatClampNeg scr) (sgI σ 25 (i + 2).toNatClampNeg scr)).1.1 = 0 := (nI_eq (b := 0) (by omega) (by decide)).mp z
  have va := aI_inj (v1 z0)
  have ec : lg_cmp (sgJ σ3 22 0 ou) a.toInt64 = 0 := by rw [e2, g2 z0, va]; exact cmp_self _
  exact ⟨fun _ => k _ _ _ _ _ e1, fun y => absurd ec y⟩
theorem lw_c1337 {i : Int32} {l5 l6 : AV} {Q : Res → SG → Prop} (h : lw e0 scr x m ou len M B U n σ L A) (hn : n < 1000) (in1 : ∀ s : SG, sgK s scr = (25, len) → ax_in s 25 scr (i + 1)) (in2 : ∀ s : SG, sgK s scr = (25, len) → ax_in s 25 scr (i + 2)) (in3 : ∀ s : SG, sgK s scr = (25, len) → ax_in s 25 scr (i + 3)) (in4 : ∀ s : SG, sgK s scr = (25, len) → ax_in s 25 scr (i + 4)) (k : ∀ σ3 L' A' l5 l6, lw e0 scr x m ou len M B U (n + 1) σ3 L' A' → ax_wp e0 mo 14 195 (1894, [aR scr, aR x, aR m, aR ou, aI i, l5, l6], []) σ3 Q) : ax_wp e0 mo 14 195 (1337, [aR scr, aR x, aR m, aR ou, aI i, l5, l6], []) σ Q := by
  obtain ⟨hA, hm, hc, ⟨k1, k2, k3⟩, ⟨z1, z2, z3, z4, z5⟩, ne, b1, b2⟩ := id h
  refine sg_195_1337 (d := 13) ⟨in1 σ k3, ?_⟩
  refine ax_use (ct_186 hc hA.1 hA.2.2.1 hA.2.2.2 hA.2.1 k2 k1 z3 (sgI σ 25 (i + 1).toNatClampNeg scr)) rfl fun w σ2 hw => ?_
  obtain ⟨rfl, L', g1, g2, g3, g4, g5⟩ := hw
  obtain ⟨r, q1, q2, q3, q4, q5⟩ := lw_mid h g3
  have hs : (oQRun A (sgI σ 25 (i + 1).toNatClampNeg scr)).2 = A := by
    unfold oQRun
    repeat' apply oc_sm
    all_goals rfl
  have hl : lwA (oQRun A (sgI σ 25 (i + 1).toNatClampNeg scr)).2 (n + 1) := by rw [hs]; exact lw_up hA
  refine sg_195_1348 (d := 13) ⟨in1 σ2 q3, ax_kd q4, ?_⟩
  rw [q5 (i + 1).toNatClampNeg]
  refine ax_use (ax_int me_132 (ct_132 r ⟨Nat.le_trans (mQ_len hA.1.2.1 hA.1.2.2.1) (by decide), fun p hp => mQ_small hA.1.2.2.1 hA.1.1.1 hp⟩ (sgI σ 25 (i + 1).toNatClampNeg scr))) rfl fun v σ3 hv => ?_
  obtain ⟨⟨v1, v2, v3, v4⟩, a, rfl⟩ := hv
  obtain ⟨e1, e2, e3, e4⟩ := lw_end h g3 g1 g4 g5 v3 v4 hl
  refine sg_195_1360 (d := 13) ⟨ax_kd e3, ax_use0 (ct_84 e3) rfl ?_⟩
  rw [v2]
  refine sg_195_1366 (d := 13) ⟨fun _ => ⟨fun z => ⟨e4, ?_⟩, fun _ => k _ _ _ _ _ e1⟩, fun z => absurd rfl z⟩
  have hle := oQRun_le A (sgI σ 25 (i + 1).toNatClampNeg scr)
  have z0 : (oQRun A (sgI σ 25 (i + 1).toNatClampNeg scr)).1.1 = 0 := (nI_eq (b := 0) (by omega) (by decide)).mp z
  have va := aI_inj (v1 z0)
  have ec : lg_cmp (sgJ σ3 22 0 ou) a.toInt64 = 0 := by rw [e2, g2 z0, va]; exact cmp_self _
  exact ⟨fun _ => k _ _ _ _ _ e1, fun y => absurd ec y⟩
theorem lw_c1393 {i : Int32} {l5 l6 : AV} {Q : Res → SG → Prop} (h : lw e0 scr x m ou len M B U n σ L A) (hn : n < 1000) (in1 : ∀ s : SG, sgK s scr = (25, len) → ax_in s 25 scr (i + 1)) (in2 : ∀ s : SG, sgK s scr = (25, len) → ax_in s 25 scr (i + 2)) (in3 : ∀ s : SG, sgK s scr = (25, len) → ax_in s 25 scr (i + 3)) (in4 : ∀ s : SG, sgK s scr = (25, len) → ax_in s 25 scr (i + 4)) (k : ∀ σ3 L' A' l5 l6, lw e0 scr x m ou len M B U (n + 1) σ3 L' A' → ax_wp e0 mo 14 195 (1894, [aR scr, aR x, aR m, aR ou, aI i, l5, l6], []) σ3 Q) : ax_wp e0 mo 14 195 (1393, [aR scr, aR x, aR m, aR ou, aI i, l5, l6], []) σ Q := by
  obtain ⟨hA, hm, hc, ⟨k1, k2, k3⟩, ⟨z1, z2, z3, z4, z5⟩, ne, b1, b2⟩ := id h
  refine sg_195_1393 (d := 13) ⟨in1 σ k3, ?_⟩
  refine ax_use (ct_187 hc hA.1 hA.2.2.1 hA.2.2.2 hA.2.1 k2 k1 z3 (sgI σ 25 (i + 1).toNatClampNeg scr)) rfl fun w σ2 hw => ?_
  obtain ⟨rfl, L', g1, g2, g3, g4, g5⟩ := hw
  obtain ⟨r, q1, q2, q3, q4, q5⟩ := lw_mid h g3
  have hs : (oQStage A (sgI σ 25 (i + 1).toNatClampNeg scr)).2 = A := by
    unfold oQStage
    repeat' apply oc_sm
    all_goals rfl
  have hl : lwA (oQStage A (sgI σ 25 (i + 1).toNatClampNeg scr)).2 (n + 1) := by rw [hs]; exact lw_up hA
  refine sg_195_1404 (d := 13) ⟨in1 σ2 q3, ax_kd q4, ?_⟩
  rw [q5 (i + 1).toNatClampNeg]
  refine ax_use (ax_int me_133 (ct_133 r ⟨Nat.le_trans (mQ_len hA.1.2.1 hA.1.2.2.1) (by decide), fun p hp => mQ_small hA.1.2.2.1 hA.1.1.1 hp⟩ (sgI σ 25 (i + 1).toNatClampNeg scr))) rfl fun v σ3 hv => ?_
  obtain ⟨⟨v1, v2, v3, v4⟩, a, rfl⟩ := hv
  obtain ⟨e1, e2, e3, e4⟩ := lw_end h g3 g1 g4 g5 v3 v4 hl
  refine sg_195_1416 (d := 13) ⟨ax_kd e3, ax_use0 (ct_84 e3) rfl ?_⟩
  rw [v2]
  refine sg_195_1422 (d := 13) ⟨fun _ => ⟨fun z => ⟨e4, ?_⟩, fun _ => k _ _ _ _ _ e1⟩, fun z => absurd rfl z⟩
  have hle := oQStage_le A (sgI σ 25 (i + 1).toNatClampNeg scr)
  have z0 : (oQStage A (sgI σ 25 (i + 1).toNatClampNeg scr)).1.1 = 0 := (nI_eq (b := 0) (by omega) (by decide)).mp z
  have va := aI_inj (v1 z0)
  have ec : lg_cmp (sgJ σ3 22 0 ou) a.toInt64 = 0 := by rw [e2, g2 z0, va]; exact cmp_self _
  exact ⟨fun _ => k _ _ _ _ _ e1, fun y => absurd ec y⟩
theorem lw_c1449 {i : Int32} {l5 l6 : AV} {Q : Res → SG → Prop} (h : lw e0 scr x m ou len M B U n σ L A) (hn : n < 1000) (in1 : ∀ s : SG, sgK s scr = (25, len) → ax_in s 25 scr (i + 1)) (in2 : ∀ s : SG, sgK s scr = (25, len) → ax_in s 25 scr (i + 2)) (in3 : ∀ s : SG, sgK s scr = (25, len) → ax_in s 25 scr (i + 3)) (in4 : ∀ s : SG, sgK s scr = (25, len) → ax_in s 25 scr (i + 4)) (k : ∀ σ3 L' A' l5 l6, lw e0 scr x m ou len M B U (n + 1) σ3 L' A' → ax_wp e0 mo 14 195 (1894, [aR scr, aR x, aR m, aR ou, aI i, l5, l6], []) σ3 Q) : ax_wp e0 mo 14 195 (1449, [aR scr, aR x, aR m, aR ou, aI i, l5, l6], []) σ Q := by
  obtain ⟨hA, hm, hc, ⟨k1, k2, k3⟩, ⟨z1, z2, z3, z4, z5⟩, ne, b1, b2⟩ := id h
  refine sg_195_1449 (d := 13) ⟨in1 σ k3, ?_⟩
  refine ax_use (ct_188 hc hA.1 hA.2.2.1 hA.2.2.2 hA.2.1 k2 k1 z3 (sgI σ 25 (i + 1).toNatClampNeg scr)) rfl fun w σ2 hw => ?_
  obtain ⟨rfl, L', g1, g2, g3, g4, g5⟩ := hw
  obtain ⟨r, q1, q2, q3, q4, q5⟩ := lw_mid h g3
  have hl := lw_take hA (sgI σ 25 (i + 1).toNatClampNeg scr)
  refine sg_195_1460 (d := 13) ⟨in1 σ2 q3, ax_kd q4, ?_⟩
  rw [q5 (i + 1).toNatClampNeg]
  refine ax_use (ax_int me_135 (ct_135 r hA.1 hA.2.1 hn (sgI σ 25 (i + 1).toNatClampNeg scr))) rfl fun v σ3 hv => ?_
  obtain ⟨⟨v1, v2, v3, v4⟩, a, rfl⟩ := hv
  obtain ⟨e1, e2, e3, e4⟩ := lw_end h g3 g1 g4 g5 v3 v4 hl
  refine sg_195_1472 (d := 13) ⟨ax_kd e3, ax_use0 (ct_84 e3) rfl ?_⟩
  rw [v2]
  refine sg_195_1478 (d := 13) ⟨fun _ => ⟨fun z => ⟨e4, ?_⟩, fun _ => k _ _ _ _ _ e1⟩, fun z => absurd rfl z⟩
  have hle := oTake_le A (sgI σ 25 (i + 1).toNatClampNeg scr)
  have z0 : (oTake A (sgI σ 25 (i + 1).toNatClampNeg scr)).1.1 = 0 := (nI_eq (b := 0) (by omega) (by decide)).mp z
  have va := aI_inj (v1 z0)
  have ec : lg_cmp (sgJ σ3 22 0 ou) a.toInt64 = 0 := by rw [e2, g2 z0, va]; exact cmp_self _
  exact ⟨fun _ => k _ _ _ _ _ e1, fun y => absurd ec y⟩
theorem lw_c1589 {i : Int32} {l5 l6 : AV} {Q : Res → SG → Prop} (h : lw e0 scr x m ou len M B U n σ L A) (hn : n < 1000) (in1 : ∀ s : SG, sgK s scr = (25, len) → ax_in s 25 scr (i + 1)) (in2 : ∀ s : SG, sgK s scr = (25, len) → ax_in s 25 scr (i + 2)) (in3 : ∀ s : SG, sgK s scr = (25, len) → ax_in s 25 scr (i + 3)) (in4 : ∀ s : SG, sgK s scr = (25, len) → ax_in s 25 scr (i + 4)) (k : ∀ σ3 L' A' l5 l6, lw e0 scr x m ou len M B U (n + 1) σ3 L' A' → ax_wp e0 mo 14 195 (1894, [aR scr, aR x, aR m, aR ou, aI i, l5, l6], []) σ3 Q) : ax_wp e0 mo 14 195 (1589, [aR scr, aR x, aR m, aR ou, aI i, l5, l6], []) σ Q := by
  obtain ⟨hA, hm, hc, ⟨k1, k2, k3⟩, ⟨z1, z2, z3, z4, z5⟩, ne, b1, b2⟩ := id h
  refine sg_195_1589 (d := 13) ⟨in1 σ k3, ?_⟩
  refine ax_use (ct_190 hc hA.1 hA.2.2.1 hA.2.2.2 hA.2.1 k2 k1 z3 (sgI σ 25 (i + 1).toNatClampNeg scr)) rfl fun w σ2 hw => ?_
  obtain ⟨rfl, L', g1, g2, g3, g4, g5⟩ := hw
  obtain ⟨r, q1, q2, q3, q4, q5⟩ := lw_mid h g3
  have hl := lw_lose hA (sgI σ 25 (i + 1).toNatClampNeg scr)
  refine sg_195_1600 (d := 13) ⟨in1 σ2 q3, ax_kd q4, ?_⟩
  rw [q5 (i + 1).toNatClampNeg]
  refine ax_use (ax_int me_139 (ct_139 r hA.1 hA.2.1 hn (sgI σ 25 (i + 1).toNatClampNeg scr))) rfl fun v σ3 hv => ?_
  obtain ⟨⟨v1, v2, v3, v4⟩, a, rfl⟩ := hv
  obtain ⟨e1, e2, e3, e4⟩ := lw_end h g3 g1 g4 g5 v3 v4 hl
  refine sg_195_1612 (d := 13) ⟨ax_kd e3, ax_use0 (ct_84 e3) rfl ?_⟩
  rw [v2]
  refine sg_195_1618 (d := 13) ⟨fun _ => ⟨fun z => ⟨e4, ?_⟩, fun _ => k _ _ _ _ _ e1⟩, fun z => absurd rfl z⟩
  have hle := oLose_le A (sgI σ 25 (i + 1).toNatClampNeg scr)
  have z0 : (oLose A (sgI σ 25 (i + 1).toNatClampNeg scr)).1.1 = 0 := (nI_eq (b := 0) (by omega) (by decide)).mp z
  have va := aI_inj (v1 z0)
  have ec : lg_cmp (sgJ σ3 22 0 ou) a.toInt64 = 0 := by rw [e2, g2 z0, va]; exact cmp_self _
  exact ⟨fun _ => k _ _ _ _ _ e1, fun y => absurd ec y⟩
theorem lw_c1645 {i : Int32} {l5 l6 : AV} {Q : Res → SG → Prop} (h : lw e0 scr x m ou len M B U n σ L A) (hn : n < 1000) (in1 : ∀ s : SG, sgK s scr = (25, len) → ax_in s 25 scr (i + 1)) (in2 : ∀ s : SG, sgK s scr = (25, len) → ax_in s 25 scr (i + 2)) (in3 : ∀ s : SG, sgK s scr = (25, len) → ax_in s 25 scr (i + 3)) (in4 : ∀ s : SG, sgK s scr = (25, len) → ax_in s 25 scr (i + 4)) (k : ∀ σ3 L' A' l5 l6, lw e0 scr x m ou len M B U (n + 1) σ3 L' A' → ax_wp e0 mo 14 195 (1894, [aR scr, aR x, aR m, aR ou, aI i, l5, l6], []) σ3 Q) : ax_wp e0 mo 14 195 (1645, [aR scr, aR x, aR m, aR ou, aI i, l5, l6], []) σ Q := by
  obtain ⟨hA, hm, hc, ⟨k1, k2, k3⟩, ⟨z1, z2, z3, z4, z5⟩, ne, b1, b2⟩ := id h
  refine sg_195_1645 (d := 13) ⟨in1 σ k3, ?_⟩
  refine ax_use (ct_191 hc hA.1 hA.2.2.1 hA.2.2.2 hA.2.1 k2 k1 z3 (sgI σ 25 (i + 1).toNatClampNeg scr)) rfl fun w σ2 hw => ?_
  obtain ⟨rfl, L', g1, g2, g3, g4, g5⟩ := hw
  obtain ⟨r, q1, q2, q3, q4, q5⟩ := lw_mid h g3
  have hs : (oWRun A (sgI σ 25 (i + 1).toNatClampNeg scr)).2 = A := by
    unfold oWRun
    repeat' apply oc_sm
    all_goals rfl
  have hl : lwA (oWRun A (sgI σ 25 (i + 1).toNatClampNeg scr)).2 (n + 1) := by rw [hs]; exact lw_up hA
  refine sg_195_1656 (d := 13) ⟨in1 σ2 q3, ax_kd q4, ?_⟩
  rw [q5 (i + 1).toNatClampNeg]
  refine ax_use (ax_int me_140 (ct_140 r (fun w => mW_small hA.1.2.2.2.1 hA.1.1.1 w) (sgI σ 25 (i + 1).toNatClampNeg scr))) rfl fun v σ3 hv => ?_
  obtain ⟨⟨v1, v2, v3, v4⟩, a, rfl⟩ := hv
  obtain ⟨e1, e2, e3, e4⟩ := lw_end h g3 g1 g4 g5 v3 v4 hl
  refine sg_195_1668 (d := 13) ⟨ax_kd e3, ax_use0 (ct_84 e3) rfl ?_⟩
  rw [v2]
  refine sg_195_1674 (d := 13) ⟨fun _ => ⟨fun z => ⟨e4, ?_⟩, fun _ => k _ _ _ _ _ e1⟩, fun z => absurd rfl z⟩
  have hle := oWRun_le A (sgI σ 25 (i + 1).toNatClampNeg scr)
  have z0 : (oWRun A (sgI σ 25 (i + 1).toNatClampNeg scr)).1.1 = 0 := (nI_eq (b := 0) (by omega) (by decide)).mp z
  have va := aI_inj (v1 z0)
  have ec : lg_cmp (sgJ σ3 22 0 ou) a.toInt64 = 0 := by rw [e2, g2 z0, va]; exact cmp_self _
  exact ⟨fun _ => k _ _ _ _ _ e1, fun y => absurd ec y⟩
theorem lw_c1701 {i : Int32} {l5 l6 : AV} {Q : Res → SG → Prop} (h : lw e0 scr x m ou len M B U n σ L A) (hn : n < 1000) (in1 : ∀ s : SG, sgK s scr = (25, len) → ax_in s 25 scr (i + 1)) (in2 : ∀ s : SG, sgK s scr = (25, len) → ax_in s 25 scr (i + 2)) (in3 : ∀ s : SG, sgK s scr = (25, len) → ax_in s 25 scr (i + 3)) (in4 : ∀ s : SG, sgK s scr = (25, len) → ax_in s 25 scr (i + 4)) (k : ∀ σ3 L' A' l5 l6, lw e0 scr x m ou len M B U (n + 1) σ3 L' A' → ax_wp e0 mo 14 195 (1894, [aR scr, aR x, aR m, aR ou, aI i, l5, l6], []) σ3 Q) : ax_wp e0 mo 14 195 (1701, [aR scr, aR x, aR m, aR ou, aI i, l5, l6], []) σ Q := by
  obtain ⟨hA, hm, hc, ⟨k1, k2, k3⟩, ⟨z1, z2, z3, z4, z5⟩, ne, b1, b2⟩ := id h
  refine sg_195_1701 (d := 13) ⟨in1 σ k3, ?_⟩
  refine ax_use (ct_192 hc hA.1 hA.2.2.1 hA.2.2.2 hA.2.1 k2 k1 z3 (sgI σ 25 (i + 1).toNatClampNeg scr)) rfl fun w σ2 hw => ?_
  obtain ⟨rfl, L', g1, g2, g3, g4, g5⟩ := hw
  obtain ⟨r, q1, q2, q3, q4, q5⟩ := lw_mid h g3
  have hs : (oWStage A (sgI σ 25 (i + 1).toNatClampNeg scr)).2 = A := by
    unfold oWStage
    repeat' apply oc_sm
    all_goals rfl
  have hl : lwA (oWStage A (sgI σ 25 (i + 1).toNatClampNeg scr)).2 (n + 1) := by rw [hs]; exact lw_up hA
  refine sg_195_1712 (d := 13) ⟨in1 σ2 q3, ax_kd q4, ?_⟩
  rw [q5 (i + 1).toNatClampNeg]
  refine ax_use (ax_int me_141 (ct_141 r (fun w => mW_small hA.1.2.2.2.1 hA.1.1.1 w) (sgI σ 25 (i + 1).toNatClampNeg scr))) rfl fun v σ3 hv => ?_
  obtain ⟨⟨v1, v2, v3, v4⟩, a, rfl⟩ := hv
  obtain ⟨e1, e2, e3, e4⟩ := lw_end h g3 g1 g4 g5 v3 v4 hl
  refine sg_195_1724 (d := 13) ⟨ax_kd e3, ax_use0 (ct_84 e3) rfl ?_⟩
  rw [v2]
  refine sg_195_1730 (d := 13) ⟨fun _ => ⟨fun z => ⟨e4, ?_⟩, fun _ => k _ _ _ _ _ e1⟩, fun z => absurd rfl z⟩
  have hle := oWStage_le A (sgI σ 25 (i + 1).toNatClampNeg scr)
  have z0 : (oWStage A (sgI σ 25 (i + 1).toNatClampNeg scr)).1.1 = 0 := (nI_eq (b := 0) (by omega) (by decide)).mp z
  have va := aI_inj (v1 z0)
  have ec : lg_cmp (sgJ σ3 22 0 ou) a.toInt64 = 0 := by rw [e2, g2 z0, va]; exact cmp_self _
  exact ⟨fun _ => k _ _ _ _ _ e1, fun y => absurd ec y⟩
theorem lw_c1770 {i : Int32} {l5 l6 : AV} {Q : Res → SG → Prop} (h : lw e0 scr x m ou len M B U n σ L A) (hn : n < 1000) (in1 : ∀ s : SG, sgK s scr = (25, len) → ax_in s 25 scr (i + 1)) (in2 : ∀ s : SG, sgK s scr = (25, len) → ax_in s 25 scr (i + 2)) (in3 : ∀ s : SG, sgK s scr = (25, len) → ax_in s 25 scr (i + 3)) (in4 : ∀ s : SG, sgK s scr = (25, len) → ax_in s 25 scr (i + 4)) (k : ∀ σ3 L' A' l5 l6, lw e0 scr x m ou len M B U (n + 1) σ3 L' A' → ax_wp e0 mo 14 195 (1894, [aR scr, aR x, aR m, aR ou, aI i, l5, l6], []) σ3 Q) : ax_wp e0 mo 14 195 (1770, [aR scr, aR x, aR m, aR ou, aI i, l5, l6], []) σ Q := by
  obtain ⟨hA, hm, hc, ⟨k1, k2, k3⟩, ⟨z1, z2, z3, z4, z5⟩, ne, b1, b2⟩ := id h
  refine sg_195_1770 (d := 13) ⟨in1 σ k3, ?_⟩
  refine ax_use (ct_193 hc hA.1 hA.2.2.1 hA.2.2.2 hA.2.1 k2 k1 z3 (sgI σ 25 (i + 1).toNatClampNeg scr)) rfl fun w σ2 hw => ?_
  obtain ⟨rfl, L', g1, g2, g3, g4, g5⟩ := hw
  obtain ⟨r, q1, q2, q3, q4, q5⟩ := lw_mid h g3
  have hs : (oEStage A (sgI σ 25 (i + 1).toNatClampNeg scr)).2 = A := by
    unfold oEStage
    repeat' apply oc_sm
    all_goals rfl
  have hl : lwA (oEStage A (sgI σ 25 (i + 1).toNatClampNeg scr)).2 (n + 1) := by rw [hs]; exact lw_up hA
  refine sg_195_1781 (d := 13) ⟨in1 σ2 q3, ax_kd q4, ?_⟩
  rw [q5 (i + 1).toNatClampNeg]
  refine ax_use (ax_int me_149 (ct_149 r hA.1.1.1 hA.1.2.2.2.2.2.1 (sgI σ 25 (i + 1).toNatClampNeg scr))) rfl fun v σ3 hv => ?_
  obtain ⟨⟨v1, v2, v3, v4⟩, a, rfl⟩ := hv
  obtain ⟨e1, e2, e3, e4⟩ := lw_end h g3 g1 g4 g5 v3 v4 hl
  refine sg_195_1793 (d := 13) ⟨ax_kd e3, ax_use0 (ct_84 e3) rfl ?_⟩
  rw [v2]
  refine sg_195_1799 (d := 13) ⟨fun _ => ⟨fun z => ⟨e4, ?_⟩, fun _ => k _ _ _ _ _ e1⟩, fun z => absurd rfl z⟩
  have hle := oEStage_le A (sgI σ 25 (i + 1).toNatClampNeg scr)
  have z0 : (oEStage A (sgI σ 25 (i + 1).toNatClampNeg scr)).1.1 = 0 := (nI_eq (b := 0) (by omega) (by decide)).mp z
  have va := aI_inj (v1 z0)
  have ec : lg_cmp (sgJ σ3 22 0 ou) a.toInt64 = 0 := by rw [e2, g2 z0, va]; exact cmp_self _
  exact ⟨fun _ => k _ _ _ _ _ e1, fun y => absurd ec y⟩
theorem lw_c1826 {i : Int32} {l5 l6 : AV} {Q : Res → SG → Prop} (h : lw e0 scr x m ou len M B U n σ L A) (hn : n < 1000) (in1 : ∀ s : SG, sgK s scr = (25, len) → ax_in s 25 scr (i + 1)) (in2 : ∀ s : SG, sgK s scr = (25, len) → ax_in s 25 scr (i + 2)) (in3 : ∀ s : SG, sgK s scr = (25, len) → ax_in s 25 scr (i + 3)) (in4 : ∀ s : SG, sgK s scr = (25, len) → ax_in s 25 scr (i + 4)) (k : ∀ σ3 L' A' l5 l6, lw e0 scr x m ou len M B U (n + 1) σ3 L' A' → ax_wp e0 mo 14 195 (1894, [aR scr, aR x, aR m, aR ou, aI i, l5, l6], []) σ3 Q) : ax_wp e0 mo 14 195 (1826, [aR scr, aR x, aR m, aR ou, aI i, l5, l6], []) σ Q := by
  obtain ⟨hA, hm, hc, ⟨k1, k2, k3⟩, ⟨z1, z2, z3, z4, z5⟩, ne, b1, b2⟩ := id h
  refine sg_195_1826 (d := 13) ⟨in1 σ k3, in2 σ k3, ?_⟩
  refine ax_use (ct_194 hc hA.1 hA.2.2.1 hA.2.2.2 hA.2.1 k2 k1 z3 (sgI σ 25 (i + 1).toNatClampNeg scr) (sgI σ 25 (i + 2).toNatClampNeg scr)) rfl fun w σ2 hw => ?_
  obtain ⟨rfl, L', g1, g2, g3, g4, g5⟩ := hw
  obtain ⟨r, q1, q2, q3, q4, q5⟩ := lw_mid h g3
  have hs : (oEInput A (sgI σ 25 (i + 1).toNatClampNeg scr) (sgI σ 25 (i + 2).toNatClampNeg scr)).2 = A := by
    unfold oEInput
    repeat' apply oc_sm
    all_goals rfl
  have hl : lwA (oEInput A (sgI σ 25 (i + 1).toNatClampNeg scr) (sgI σ 25 (i + 2).toNatClampNeg scr)).2 (n + 1) := by rw [hs]; exact lw_up hA
  refine sg_195_1843 (d := 13) ⟨in1 σ2 q3, in2 σ2 q3, ax_kd q4, ?_⟩
  rw [q5 (i + 1).toNatClampNeg, q5 (i + 2).toNatClampNeg]
  refine ax_use (ax_int me_150 (ct_150 r hA.1.1.1 hA.1.2.2.2.2.2.1 (sgI σ 25 (i + 1).toNatClampNeg scr) (sgI σ 25 (i + 2).toNatClampNeg scr))) rfl fun v σ3 hv => ?_
  obtain ⟨⟨v1, v2, v3, v4⟩, a, rfl⟩ := hv
  obtain ⟨e1, e2, e3, e4⟩ := lw_end h g3 g1 g4 g5 v3 v4 hl
  refine sg_195_1861 (d := 13) ⟨ax_kd e3, ax_use0 (ct_84 e3) rfl ?_⟩
  rw [v2]
  refine sg_195_1867 (d := 13) ⟨fun _ => ⟨fun z => ⟨e4, ?_⟩, fun _ => k _ _ _ _ _ e1⟩, fun z => absurd rfl z⟩
  have hle := oEInput_le A (sgI σ 25 (i + 1).toNatClampNeg scr) (sgI σ 25 (i + 2).toNatClampNeg scr)
  have z0 : (oEInput A (sgI σ 25 (i + 1).toNatClampNeg scr) (sgI σ 25 (i + 2).toNatClampNeg scr)).1.1 = 0 := (nI_eq (b := 0) (by omega) (by decide)).mp z
  have va := aI_inj (v1 z0)
  have ec : lg_cmp (sgJ σ3 22 0 ou) a.toInt64 = 0 := by rw [e2, g2 z0, va]; exact cmp_self _
  exact ⟨fun _ => k _ _ _ _ _ e1, fun y => absurd ec y⟩
end
end AXLWC
