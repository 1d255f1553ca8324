/-! The case of the marks. Printed by wip/whole/gen79q.py. -/
section AXLWE
section
variable {e0 mo scr x m ou len : Nat} {M : Nat → Nat} {B U n : Nat} {σ : SG} {L : LY} {A : MS}
theorem lw_c460 {i : Int32} {l5 l6 : AV} {Q : Res → SG → Prop} (h : lw e0 scr x m ou len M B U n σ L A) (in1 : ∀ s : SG, sgK s scr = (25, len) → ax_in s 25 scr (i + 1)) (in2 : ∀ s : SG, sgK s scr = (25, len) → ax_in s 25 scr (i + 2)) (in3 : ∀ s : SG, sgK s scr = (25, len) → ax_in s 25 scr (i + 3)) (in4 : ∀ s : SG, sgK s scr = (25, len) → ax_in s 25 scr (i + 4)) (k : ∀ σ3 L' A' l5 l6, lw e0 scr x m ou len M B U (n + 1) σ3 L' A' → ax_wp e0 mo 14 195 (1894, [aR scr, aR x, aR m, aR ou, aI i, l5, l6], []) σ3 Q) : ax_wp e0 mo 14 195 (460, [aR scr, aR x, aR m, aR ou, aI i, l5, l6], []) σ Q := by
  obtain ⟨hA, hm, hc, ⟨k1, k2, k3⟩, ⟨z1, z2, z3, z4, z5⟩, ne, b1, b2⟩ := id h
  have rest : ∀ f c d : Bool, (∀ s : SG, sgI s 25 (i + 2).toNatClampNeg scr = sgI σ 25 (i + 2).toNatClampNeg scr → (f = true ↔ ¬ sgI s 25 (i + 2).toNatClampNeg scr = 0)) → (∀ s : SG, sgI s 25 (i + 3).toNatClampNeg scr = sgI σ 25 (i + 3).toNatClampNeg scr → (c = true ↔ ¬ sgI s 25 (i + 3).toNatClampNeg scr = 0)) → (∀ s : SG, sgI s 25 (i + 4).toNatClampNeg scr = sgI σ 25 (i + 4).toNatClampNeg scr → (d = true ↔ ¬ sgI s 25 (i + 4).toNatClampNeg scr = 0)) → ∃ K : AV → SG → Prop, ax_ok e0 mo 8 175 [aR x, aI (sgI σ 25 (i + 1).toNatClampNeg scr), aI (bI f), aI (bI c), aI (bI d)] σ K ∧ ∀ w σ2, K w σ2 → ax_wp e0 mo 14 195 (512, [aR scr, aR x, aR m, aR ou, aI i, l5, l6], ax_push w []) σ2 Q := by
    intro f c d hf hc' hd
    refine ⟨_, ct_175 (ou := ou) hc hA.1 _ f c d, fun w σ2 hw => ?_⟩
    obtain ⟨rfl, L', g1, g3, g4, g5⟩ := hw
    obtain ⟨r, q1, q2, q3, q4, q5⟩ := lw_mid h g3
    have hl := lw_setMarks hA (sgI σ 25 (i + 1).toNatClampNeg scr) f c d
    have hf2 := hf σ2 (q5 _)
    have hc2 := hc' σ2 (q5 _)
    have hd2 := hd σ2 (q5 _)
    have fin : ax_ok e0 mo 2 99 [aR m, aI (sgI σ2 25 (i + 1).toNatClampNeg scr), aI (bI f), aI (bI c), aI (bI d)] σ2 (fun w σ3 => w = aU ∧ sgI σ3 7 23 m = nI (oSetMarks A (sgI σ 25 (i + 1).toNatClampNeg scr) f c d).1.1 ∧ ax_rm σ3 m M (oSetMarks A (sgI σ 25 (i + 1).toNatClampNeg scr) f c d).2 ∧ rf_w m M σ2 σ3) := by
      rw [q5]
      exact ct_99 r hA.1 _ f c d
    have cont0 : ∀ σ3, (sgI σ3 7 23 m = nI (oSetMarks A (sgI σ 25 (i + 1).toNatClampNeg scr) f c d).1.1 ∧ ax_rm σ3 m M (oSetMarks A (sgI σ 25 (i + 1).toNatClampNeg scr) f c d).2 ∧ rf_w m M σ2 σ3) → ax_wp e0 mo 14 195 (566, [aR scr, aR x, aR m, aR ou, aI i, aI (nI (oSetMarks A (sgI σ 25 (i + 1).toNatClampNeg scr) f c d).1.1), l6], []) σ3 Q := fun σ3 hv => by
      obtain ⟨v2, v3, v4⟩ := hv
      obtain ⟨e1, e2, e3, e4⟩ := lw_end h g3 g1 g4 g5 v3 v4 hl
      refine sg_195_566 (d := 13) ⟨ax_kd e3, ax_use0 (ct_84 e3) rfl ?_⟩
      rw [v2]
      exact sg_195_570 (d := 13) ⟨fun _ => k _ _ _ _ _ e1, fun z => absurd rfl z⟩
    refine sg_195_512 (d := 13) ⟨in1 σ2 q3, ⟨in2 σ2 q3, fun y2 => ⟨in3 σ2 q3, fun y3 => ⟨in4 σ2 q3, fun y4 => ⟨ax_kd q4, ?_⟩, fun y4 => ⟨ax_kd q4, ?_⟩⟩, fun y3 => ⟨in4 σ2 q3, fun y4 => ⟨ax_kd q4, ?_⟩, fun y4 => ⟨ax_kd q4, ?_⟩⟩⟩, fun y2 => ⟨in3 σ2 q3, fun y3 => ⟨in4 σ2 q3, fun y4 => ⟨ax_kd q4, ?_⟩, fun y4 => ⟨ax_kd q4, ?_⟩⟩, fun y3 => ⟨in4 σ2 q3, fun y4 => ⟨ax_kd q4, ?_⟩, fun y4 => ⟨ax_kd q4, ?_⟩⟩⟩⟩⟩
    · have e2 : f = false := not_true_b (fun t => hf2.mp t y2)
      have e3 : c = false := not_true_b (fun t => hc2.mp t y3)
      have e4 : d = false := not_true_b (fun t => hd2.mp t y4)
      subst e2 e3 e4
      exact ax_use (fin) rfl (fun w σ3 hw => by obtain ⟨rfl, hw⟩ := hw; exact cont0 σ3 hw)
    · have e2 : f = false := not_true_b (fun t => hf2.mp t y2)
      have e3 : c = false := not_true_b (fun t => hc2.mp t y3)
      have e4 : d = true := hd2.mpr y4
      subst e2 e3 e4
      exact ax_use (fin) rfl (fun w σ3 hw => by obtain ⟨rfl, hw⟩ := hw; exact cont0 σ3 hw)
    · have e2 : f = false := not_true_b (fun t => hf2.mp t y2)
      have e3 : c = true := hc2.mpr y3
      have e4 : d = false := not_true_b (fun t => hd2.mp t y4)
      subst e2 e3 e4
      exact ax_use (fin) rfl (fun w σ3 hw => by obtain ⟨rfl, hw⟩ := hw; exact cont0 σ3 hw)
    · have e2 : f = false := not_true_b (fun t => hf2.mp t y2)
      have e3 : c = true := hc2.mpr y3
      have e4 : d = true := hd2.mpr y4
      subst e2 e3 e4
      exact ax_use (fin) rfl (fun w σ3 hw => by obtain ⟨rfl, hw⟩ := hw; exact cont0 σ3 hw)
    · have e2 : f = true := hf2.mpr y2
      have e3 : c = false := not_true_b (fun t => hc2.mp t y3)
      have e4 : d = false := not_true_b (fun t => hd2.mp t y4)
      subst e2 e3 e4
      exact ax_use (fin) rfl (fun w σ3 hw => by obtain ⟨rfl, hw⟩ := hw; exact cont0 σ3 hw)
    · have e2 : f = true := hf2.mpr y2
      have e3 : c = false := not_true_b (fun t => hc2.mp t y3)
      have e4 : d = true := hd2.mpr y4
      subst e2 e3 e4
      exact ax_use (fin) rfl (fun w σ3 hw => by obtain ⟨rfl, hw⟩ := hw; exact cont0 σ3 hw)
    · have e2 : f = true := hf2.mpr y2
      have e3 : c = true := hc2.mpr y3
      have e4 : d = false := not_true_b (fun t => hd2.mp t y4)
      subst e2 e3 e4
      exact ax_use (fin) rfl (fun w σ3 hw => by obtain ⟨rfl, hw⟩ := hw; exact cont0 σ3 hw)
    · have e2 : f = true := hf2.mpr y2
      have e3 : c = true := hc2.mpr y3
      have e4 : d = true := hd2.mpr y4
      subst e2 e3 e4
      exact ax_use (fin) rfl (fun w σ3 hw => by obtain ⟨rfl, hw⟩ := hw; exact cont0 σ3 hw)
  refine sg_195_460 (d := 13) ⟨in1 σ k3, ⟨in2 σ k3, fun y2 => ⟨in3 σ k3, fun y3 => ⟨in4 σ k3, fun y4 => ?_, fun y4 => ?_⟩, fun y3 => ⟨in4 σ k3, fun y4 => ?_, fun y4 => ?_⟩⟩, fun y2 => ⟨in3 σ k3, fun y3 => ⟨in4 σ k3, fun y4 => ?_, fun y4 => ?_⟩, fun y3 => ⟨in4 σ k3, fun y4 => ?_, fun y4 => ?_⟩⟩⟩⟩
  · obtain ⟨K, k1', k2'⟩ := rest false false false (fun s e => ⟨fun t => Bool.noConfusion t, fun t => absurd (e.trans y2) t⟩) (fun s e => ⟨fun t => Bool.noConfusion t, fun t => absurd (e.trans y3) t⟩) (fun s e => ⟨fun t => Bool.noConfusion t, fun t => absurd (e.trans y4) t⟩)
    exact ax_use k1' rfl k2'
  · obtain ⟨K, k1', k2'⟩ := rest false false true (fun s e => ⟨fun t => Bool.noConfusion t, fun t => absurd (e.trans y2) t⟩) (fun s e => ⟨fun t => Bool.noConfusion t, fun t => absurd (e.trans y3) t⟩) (fun s e => ⟨fun _ t => y4 (e.symm.trans t), fun _ => rfl⟩)
    exact ax_use k1' rfl k2'
  · obtain ⟨K, k1', k2'⟩ := rest false true false (fun s e => ⟨fun t => Bool.noConfusion t, fun t => absurd (e.trans y2) t⟩) (fun s e => ⟨fun _ t => y3 (e.symm.trans t), fun _ => rfl⟩) (fun s e => ⟨fun t => Bool.noConfusion t, fun t => absurd (e.trans y4) t⟩)
    exact ax_use k1' rfl k2'
  · obtain ⟨K, k1', k2'⟩ := rest false true true (fun s e => ⟨fun t => Bool.noConfusion t, fun t => absurd (e.trans y2) t⟩) (fun s e => ⟨fun _ t => y3 (e.symm.trans t), fun _ => rfl⟩) (fun s e => ⟨fun _ t => y4 (e.symm.trans t), fun _ => rfl⟩)
    exact ax_use k1' rfl k2'
  · obtain ⟨K, k1', k2'⟩ := rest true false false (fun s e => ⟨fun _ t => y2 (e.symm.trans t), fun _ => rfl⟩) (fun s e => ⟨fun t => Bool.noConfusion t, fun t => absurd (e.trans y3) t⟩) (fun s e => ⟨fun t => Bool.noConfusion t, fun t => absurd (e.trans y4) t⟩)
    exact ax_use k1' rfl k2'
  · obtain ⟨K, k1', k2'⟩ := rest true false true (fun s e => ⟨fun _ t => y2 (e.symm.trans t), fun _ => rfl⟩) (fun s e => ⟨fun t => Bool.noConfusion t, fun t => absurd (e.trans y3) t⟩) (fun s e => ⟨fun _ t => y4 (e.symm.trans t), fun _ => rfl⟩)
    exact ax_use k1' rfl k2'
  · obtain ⟨K, k1', k2'⟩ := rest true true false (fun s e => ⟨fun _ t => y2 (e.symm.trans t), fun _ => rfl⟩) (fun s e => ⟨fun _ t => y3 (e.symm.trans t), fun _ => rfl⟩) (fun s e => ⟨fun t => Bool.noConfusion t, fun t => absurd (e.trans y4) t⟩)
    exact ax_use k1' rfl k2'
  · obtain ⟨K, k1', k2'⟩ := rest true true true (fun s e => ⟨fun _ t => y2 (e.symm.trans t), fun _ => rfl⟩) (fun s e => ⟨fun _ t => y3 (e.symm.trans t), fun _ => rfl⟩) (fun s e => ⟨fun _ t => y4 (e.symm.trans t), fun _ => rfl⟩)
    exact ax_use k1' rfl k2'
end
end AXLWE
