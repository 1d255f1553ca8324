/-! The cases of the law that the generator does not print. -/
section AXLWD
section
variable {e0 mo scr x m ou len : Nat} {M : Nat → Nat} {B U n : Nat} {σ : SG} {L : LY} {A : MS}
theorem lw_c580 {i : Int32} {l5 l6 : AV} {Q : Res → SG → Prop} (h : lw e0 scr x m ou len M B U n σ L A) (k : ∀ σ3 L' A' l5 l6, lw e0 scr x m ou len M B U (n + 1) σ3 L' A' → ax_wp e0 mo 14 195 (1894, [aR scr, aR x, aR m, aR ou, aI i, l5, l6], []) σ3 Q) : ax_wp e0 mo 14 195 (580, [aR scr, aR x, aR m, aR ou, aI i, l5, l6], []) σ Q := by
  obtain ⟨hA, hm, hc, ⟨k1, k2, k3⟩, ⟨z1, z2, z3, z4, z5⟩, ne, b1, b2⟩ := id h
  refine sg_195_580 (d := 13) ⟨ax_kd (xf hc).1, ax_useX (ct_38 hc) rfl (fun w σ2 hw => ?_) (fun E σ2 hE => absurd hE.1 (Nat.not_succ_le_zero _))⟩
  obtain ⟨-, rfl, L', h2, f2⟩ := hw
  have F2 : ax_F (fun k i q => cW k i q ∨ (k = 22 ∧ q = ou)) σ σ2 := f2.1.mono fun _ _ _ _ z => Or.inl z
  obtain ⟨r, q1, q2, q3, q4, q5⟩ := lw_mid h F2
  refine sg_195_584 (d := 13) ⟨ax_kd q4, ax_use (ct_100 r) rfl fun v σ3 hv => ?_⟩
  obtain ⟨v1, v2, v3, v4⟩ := hv
  have v1 := v1 rfl
  subst v1
  obtain ⟨e1, -⟩ := lw_end h F2 h2 f2.2.1 f2.2.2 v3 v4 (lw_up hA)
  exact sg_195_588 (d := 13) ⟨fun _ => k _ _ _ _ _ e1, fun y => absurd rfl y⟩
theorem lw_c872 {i : Int32} {l5 l6 : AV} {Q : Res → SG → Prop} (h : lw e0 scr x m ou len M B U n σ L A) (k : ∀ σ3 L' A' l5 l6, lw e0 scr x m ou len M B U (n + 1) σ3 L' A' → ax_wp e0 mo 14 195 (1894, [aR scr, aR x, aR m, aR ou, aI i, l5, l6], []) σ3 Q) : ax_wp e0 mo 14 195 (872, [aR scr, aR x, aR m, aR ou, aI i, l5, l6], []) σ Q := by
  obtain ⟨hA, hm, hc, ⟨k1, k2, k3⟩, ⟨z1, z2, z3, z4, z5⟩, ne, b1, b2⟩ := id h
  refine sg_195_872 (d := 13) ⟨ax_kd (xf hc).1, ax_useX (ct_43 hc) rfl (fun w σ2 hw => ?_) (fun E σ2 hE => absurd hE.1 (Nat.not_succ_le_zero _))⟩
  obtain ⟨-, rfl, L', h2, f2⟩ := hw
  have F2 : ax_F (fun k i q => cW k i q ∨ (k = 22 ∧ q = ou)) σ σ2 := f2.1.mono fun _ _ _ _ z => Or.inl z
  obtain ⟨r, q1, q2, q3, q4, q5⟩ := lw_mid h F2
  refine sg_195_876 (d := 13) ⟨ax_kd q4, ax_use (ct_122 r) rfl fun v σ3 hv => ?_⟩
  obtain ⟨v1, v2, v3, v4⟩ := hv
  have v1 := v1 rfl
  subst v1
  obtain ⟨e1, -⟩ := lw_end h F2 h2 f2.2.1 f2.2.2 v3 v4 (lw_up hA)
  exact sg_195_880 (d := 13) ⟨fun _ => k _ _ _ _ _ e1, fun y => absurd rfl y⟩
theorem lw_c1324 {i : Int32} {l5 l6 : AV} {Q : Res → SG → Prop} (h : lw e0 scr x m ou len M B U n σ L A) (k : ∀ σ3 L' A' l5 l6, lw e0 scr x m ou len M B U (n + 1) σ3 L' A' → ax_wp e0 mo 14 195 (1894, [aR scr, aR x, aR m, aR ou, aI i, l5, l6], []) σ3 Q) : ax_wp e0 mo 14 195 (1324, [aR scr, aR x, aR m, aR ou, aI i, l5, l6], []) σ Q := by
  obtain ⟨hA, hm, hc, ⟨k1, k2, k3⟩, ⟨z1, z2, z3, z4, z5⟩, ne, b1, b2⟩ := id h
  refine sg_195_1324 (d := 13) ⟨ax_kd (xf hc).1, ax_useX (ct_50 hc) rfl (fun w σ2 hw => ?_) (fun E σ2 hE => absurd hE.1 (Nat.not_succ_le_zero _))⟩
  obtain ⟨-, rfl, L', h2, f2⟩ := hw
  have F2 : ax_F (fun k i q => cW k i q ∨ (k = 22 ∧ q = ou)) σ σ2 := f2.1.mono fun _ _ _ _ z => Or.inl z
  obtain ⟨r, q1, q2, q3, q4, q5⟩ := lw_mid h F2
  refine sg_195_1328 (d := 13) ⟨ax_kd q4, ax_use (ct_131 r) rfl fun v σ3 hv => ?_⟩
  obtain ⟨v1, v2, v3, v4⟩ := hv
  have v1 := v1 rfl
  subst v1
  obtain ⟨e1, -⟩ := lw_end h F2 h2 f2.2.1 f2.2.2 v3 v4 (lw_up hA)
  exact sg_195_1332 (d := 13) ⟨fun _ => k _ _ _ _ _ e1, fun y => absurd rfl y⟩
theorem lw_c1757 {i : Int32} {l5 l6 : AV} {Q : Res → SG → Prop} (h : lw e0 scr x m ou len M B U n σ L A) (k : ∀ σ3 L' A' l5 l6, lw e0 scr x m ou len M B U (n + 1) σ3 L' A' → ax_wp e0 mo 14 195 (1894, [aR scr, aR x, aR m, aR ou, aI i, l5, l6], []) σ3 Q) : ax_wp e0 mo 14 195 (1757, [aR scr, aR x, aR m, aR ou, aI i, l5, l6], []) σ Q := by
  obtain ⟨hA, hm, hc, ⟨k1, k2, k3⟩, ⟨z1, z2, z3, z4, z5⟩, ne, b1, b2⟩ := id h
  refine sg_195_1757 (d := 13) ⟨ax_kd (xf hc).1, ax_useX (ct_58 hc) rfl (fun w σ2 hw => ?_) (fun E σ2 hE => absurd hE.1 (Nat.not_succ_le_zero _))⟩
  obtain ⟨-, rfl, L', h2, f2⟩ := hw
  have F2 : ax_F (fun k i q => cW k i q ∨ (k = 22 ∧ q = ou)) σ σ2 := f2.1.mono fun _ _ _ _ z => Or.inl z
  obtain ⟨r, q1, q2, q3, q4, q5⟩ := lw_mid h F2
  refine sg_195_1761 (d := 13) ⟨ax_kd q4, ax_use (ct_148 r) rfl fun v σ3 hv => ?_⟩
  obtain ⟨v1, v2, v3, v4⟩ := hv
  have v1 := v1 rfl
  subst v1
  obtain ⟨e1, -⟩ := lw_end h F2 h2 f2.2.1 f2.2.2 v3 v4 (lw_up hA)
  exact sg_195_1765 (d := 13) ⟨fun _ => k _ _ _ _ _ e1, fun y => absurd rfl y⟩
theorem lw_c1505 {i : Int32} {l5 l6 : AV} {Q : Res → SG → Prop} (h : lw e0 scr x m ou len M B U n σ L A) (hn : n < 1000) (in1 : ∀ s : SG, sgK s scr = (25, len) → ax_in s 25 scr (i + 1)) (in2 : ∀ s : SG, sgK s scr = (25, len) → ax_in s 25 scr (i + 2)) (in3 : ∀ s : SG, sgK s scr = (25, len) → ax_in s 25 scr (i + 3)) (in4 : ∀ s : SG, sgK s scr = (25, len) → ax_in s 25 scr (i + 4)) (k : ∀ σ3 L' A' l5 l6, lw e0 scr x m ou len M B U (n + 1) σ3 L' A' → ax_wp e0 mo 14 195 (1894, [aR scr, aR x, aR m, aR ou, aI i, l5, l6], []) σ3 Q) : ax_wp e0 mo 14 195 (1505, [aR scr, aR x, aR m, aR ou, aI i, l5, l6], []) σ Q := by
  obtain ⟨hA, hm, hc, ⟨k1, k2, k3⟩, ⟨z1, z2, z3, z4, z5⟩, ne, b1, b2⟩ := id h
  -- the rest, for the flag b
  have rest : ∀ b : Bool, (∀ s : SG, (sgI s 25 (i + 2).toNatClampNeg scr = sgI σ 25 (i + 2).toNatClampNeg scr) → (b = true ↔ ¬ sgI s 25 (i + 2).toNatClampNeg scr = 0)) → ∃ K : AV → SG → Prop, ax_ok e0 mo 11 189 [aR x, aI (sgI σ 25 (i + 1).toNatClampNeg scr), aI (bI b), aR ou] σ K ∧ ∀ w σ2, K w σ2 → ax_wp e0 mo 14 195 (1530, [aR scr, aR x, aR m, aR ou, aI i, l5, l6], ax_push w []) σ2 Q := by
    intro b hb
    refine ⟨_, ct_189 hc hA.1 hA.2.2.1 hA.2.2.2 hA.2.1 k2 k1 z3 _ b, fun w σ2 hw => ?_⟩
    obtain ⟨rfl, L', g1, g2, g3, g4, g5⟩ := hw
    obtain ⟨r, q1, q2, q3, q4, q5⟩ := lw_mid h g3
    have hl := lw_finish hA (sgI σ 25 (i + 1).toNatClampNeg scr) b
    have fin : ax_ok e0 mo 6 137 [aR m, aI (sgI σ2 25 (i + 1).toNatClampNeg scr), aI (bI b)] σ2 (fun v σ3 => rf_an m M σ2 (oFinish A (sgI σ 25 (i + 1).toNatClampNeg scr) b) v σ3 ∧ ∃ a, v = aI a) := by
      rw [q5]
      exact ax_int me_137 (ct_137 r hA.1 hA.2.1 hn _ b)
    have cont : ∀ v σ3, (rf_an m M σ2 (oFinish A (sgI σ 25 (i + 1).toNatClampNeg scr) b) v σ3 ∧ ∃ a, v = aI a) → ax_wp e0 mo 14 195 (1556, [aR scr, aR x, aR m, aR ou, aI i, aI (nI (oFinish A (sgI σ 25 (i + 1).toNatClampNeg scr) b).1.1), l6], ax_push v []) σ3 Q := fun v σ3 hv => by
      obtain ⟨⟨v1, v2, v3, v4⟩, a, rfl⟩ := hv
      obtain ⟨e1, e2, e3, e4⟩ := lw_end h g3 g1 g4 g5 v3 v4 hl
      refine sg_195_1556 (d := 13) ⟨ax_kd e3, ax_use0 (ct_84 e3) rfl ?_⟩
      rw [v2]
      refine sg_195_1562 (d := 13) ⟨fun _ => ⟨fun z => ⟨e4, ?_⟩, fun _ => k _ _ _ _ _ e1⟩, fun z => absurd rfl z⟩
      have hle := oFinish_le A (sgI σ 25 (i + 1).toNatClampNeg scr) b
      have z0 : (oFinish A (sgI σ 25 (i + 1).toNatClampNeg scr) b).1.1 = 0 := (nI_eq (b := 0) (by omega) (by decide)).mp z
      have va := aI_inj (v1 z0)
      have ec : lg_cmp (sgJ σ3 22 0 ou) a.toInt64 = 0 := by rw [e2, g2 z0, va]; exact cmp_self _
      exact ⟨fun _ => k _ _ _ _ _ e1, fun y => absurd ec y⟩
    have hb2 := hb σ2 (q5 _)
    refine sg_195_1530 (d := 13) ⟨in1 σ2 q3, in2 σ2 q3, fun z => ⟨ax_kd q4, ?_⟩, fun z => ⟨ax_kd q4, ?_⟩⟩
    · have eb : b = false := not_true_b (fun t => hb2.mp t z)
      subst eb
      exact ax_use fin rfl cont
    · have eb : b = true := hb2.mpr z
      subst eb
      exact ax_use fin rfl cont
  refine sg_195_1505 (d := 13) ⟨in1 σ k3, in2 σ k3, fun z => ?_, fun z => ?_⟩
  · obtain ⟨K, k1', k2'⟩ := rest false (fun s e => ⟨fun t => Bool.noConfusion t, fun t => absurd (e.trans z) t⟩)
    exact ax_use k1' rfl k2'
  · obtain ⟨K, k1', k2'⟩ := rest true (fun s e => ⟨fun _ t => z (e.symm.trans t), fun _ => rfl⟩)
    exact ax_use k1' rfl k2'
end
end AXLWD
