/-! The class: its constructor. -/
section AXRZ
section
variable {e0 mo : Nat} {σ σ' σ1 : SG} {x : Nat}
theorem ct_0 {c : Nat} (kc : sgK σ c = (0, 1)) (zc : c < sgZ σ) (hc0 : 0 < c) (he0 : sgK σ e0 = (23, 0)) (ze : e0 < sgZ σ) (f : Nat → Nat) : ax_ok e0 mo 3 0 [aR c] σ (fun w σ2 => w = aU ∧ sgR σ2 0 0 c = sgZ σ ∧ ax_li σ2 (sgZ σ) e0 0 0 f ∧ ax_F (fun k _ q => k = 0 ∧ q = c) σ σ2 ∧ sgZ σ2 = sgZ σ + 1 ∧ sgU σ2 = sgU σ + 3) := by
  refine sg_0_0 (d := 2) ⟨⟨by show (0 : Nat) ≤ 8; decide, hc0⟩, by omega, ax_use (ct_154n he0 ze (by omega) f) rfl fun w σ2 hw => ?_⟩
  obtain ⟨rfl, g1, g2, g3, g4⟩ := hw
  have F : ax_F (fun k _ q => k = 0 ∧ q = c) σ (putR σ2 0 0 c (sgZ σ)) := (g2.mono fun _ _ _ _ z => z.elim).putR fun _ => ⟨rfl, rfl⟩
  refine sg_0_12 (d := 2) ⟨by rw [g2.2.2.1 _ zc]; exact ax_kd kc, rfl, ?_, li_F g1 (W := fun k _ q => k = 0 ∧ q = c) ((ax_F.refl _ _).putR fun _ => ⟨rfl, rfl⟩) ⟨fun z => absurd z.1 (by decide), fun z => absurd z.1 (by decide)⟩ (fun i z => absurd z.1 (by decide)), F, g3, g4⟩
  rw [gR_putR, if_pos ⟨rfl, rfl, rfl⟩]
theorem ct_32 (kx : sgK σ x = (6, 5)) (zx : x < sgZ σ) (hx0 : 0 < x) (he0 : sgK σ e0 = (23, 0)) (ze : e0 < sgZ σ) : ax_ok e0 mo 4 32 [aR x] σ (fun w σ2 => w = aU ∧ (∃ L, ax_rc e0 σ2 x L mS0) ∧ ax_F (fun k _ q => k = 6 ∧ q = x) σ σ2 ∧ sgZ σ2 = sgZ σ + 6 ∧ sgU σ2 = sgU σ + 17) := by
  refine sg_32_0 (d := 3) ⟨⟨by show (0 : Nat) ≤ 8; decide, hx0⟩, by omega, ax_use (ct_154n he0 ze (by omega) (fun _ => 0)) rfl fun w σ2 hw => ?_⟩
  obtain ⟨rfl, a1, a2, a3, a4⟩ := hw
  have W6 : ∀ q : Nat, ∀ k : Nat, k ≠ 6 → ¬ (k = 6 ∧ q = x) := fun q k a z => a z.1
  have pz : ∀ (s : SG) (i v : Nat), ax_F (fun k _ q => k = 6 ∧ q = x) s (putR s 6 i x v) := fun s i v => (ax_F.refl _ _).putR fun _ => ⟨rfl, rfl⟩
  have up : ∀ {s s' : SG}, ax_F (fun _ _ _ => False) s s' → ax_F (fun k _ q => k = 6 ∧ q = x) s s' := fun h => h.mono fun _ _ _ _ z => z.elim
  have lm : ∀ {s s' : SG} {a el cap n : Nat} {f : Nat → Nat}, ax_li s a el cap n f → ax_F (fun k _ q => k = 6 ∧ q = x) s s' → ax_li s' a el cap n f := fun h hF => li_F h hF ⟨W6 _ _ (by decide), W6 _ _ (by decide)⟩ (fun i => W6 _ _ (by decide))
  have F2 := up a2
  refine sg_32_12 (d := 3) ⟨by rw [a2.2.2.1 _ zx]; exact ax_kd kx, by omega, ?_⟩
  have F2' := F2.trans (pz σ2 0 (sgZ σ))
  refine ax_use (ct_154n (σ := putR σ2 6 0 x (sgZ σ)) (by rw [F2'.2.2.1 _ ze]; exact he0) (Nat.lt_of_lt_of_le ze F2'.1) (by show 0 < sgZ σ2; omega) (fun _ => 0)) rfl fun w σ3 hw => ?_
  obtain ⟨rfl, b1, b2, b3, b4⟩ := hw
  have b3 : sgZ σ3 = sgZ σ2 + 1 := b3
  have b4 : sgU σ3 = sgU σ2 + 3 := b4
  have F3 := F2'.trans (up b2)
  refine sg_32_23 (d := 3) ⟨by rw [F3.2.2.1 _ zx]; exact ax_kd kx, by omega, ?_⟩
  have F3' := F3.trans (pz σ3 1 (sgZ σ2))
  refine ax_use (ct_154n (σ := putR σ3 6 1 x (sgZ σ2)) (by rw [F3'.2.2.1 _ ze]; exact he0) (Nat.lt_of_lt_of_le ze F3'.1) (by show 0 < sgZ σ3; omega) (fun _ => 0)) rfl fun w σ4 hw => ?_
  obtain ⟨rfl, c1, c2, c3, c4⟩ := hw
  have c3 : sgZ σ4 = sgZ σ3 + 1 := c3
  have c4 : sgU σ4 = sgU σ3 + 3 := c4
  have F4 := F3'.trans (up c2)
  have k4 : sgK σ4 x = (6, 5) := by rw [F4.2.2.1 _ zx]; exact kx
  have km : sgK (mkC (putR σ4 6 2 x (sgZ σ3)) 24 4) x = (6, 5) := by
    rw [gK_mk]
    exact (if_neg (show ¬ x = sgZ σ4 by omega)).trans k4
  refine sg_32_34 (d := 3) ⟨ax_kd k4, ⟨by decide, by decide⟩, ax_kd km, by show 0 < sgZ σ4 + 1; omega, ?_⟩
  have z4 : sgZ (mkC (putR σ4 6 2 x (sgZ σ3)) 24 (4 : Int32).toNatClampNeg) = sgZ σ4 + 1 := rfl
  rw [z4]
  have F5 : ax_F (fun k _ q => k = 6 ∧ q = x) σ (mkC (putR (mkC (putR σ4 6 2 x (sgZ σ3)) 24 4) 6 3 x (sgZ σ4)) 0 1) := (((F4.putR fun _ => ⟨rfl, rfl⟩).mkC).putR fun _ => ⟨rfl, rfl⟩).mkC
  have F45 : ax_F (fun k _ q => k = 6 ∧ q = x) σ4 (mkC (putR (mkC (putR σ4 6 2 x (sgZ σ3)) 24 4) 6 3 x (sgZ σ4)) 0 1) := ((((ax_F.refl _ _).putR fun _ => ⟨rfl, rfl⟩).mkC).putR fun _ => ⟨rfl, rfl⟩).mkC
  have kc5 : sgK (mkC (putR (mkC (putR σ4 6 2 x (sgZ σ3)) 24 4) 6 3 x (sgZ σ4)) 0 1) (sgZ σ4 + 1) = (0, 1) := by
    rw [gK_mk]; exact if_pos rfl
  have kr5 : sgK (mkC (putR (mkC (putR σ4 6 2 x (sgZ σ3)) 24 4) 6 3 x (sgZ σ4)) 0 1) (sgZ σ4) = (24, 4) := by
    rw [gK_mk]
    refine (if_neg (show ¬ sgZ σ4 = sgZ σ4 + 1 by omega)).trans ?_
    show sgK (mkC (putR σ4 6 2 x (sgZ σ3)) 24 4) (sgZ σ4) = _
    rw [gK_mk]; exact if_pos rfl
  have x5 : sgR (mkC (putR (mkC (putR σ4 6 2 x (sgZ σ3)) 24 4) 6 3 x (sgZ σ4)) 0 1) 6 2 x = sgZ σ3 ∧ sgR (mkC (putR (mkC (putR σ4 6 2 x (sgZ σ3)) 24 4) 6 3 x (sgZ σ4)) 0 1) 6 3 x = sgZ σ4 := by
    simp only [gR_putR, gR_mk]
    simp
  have xo : sgR (mkC (putR (mkC (putR σ4 6 2 x (sgZ σ3)) 24 4) 6 3 x (sgZ σ4)) 0 1) 6 0 x = sgR σ4 6 0 x ∧ sgR (mkC (putR (mkC (putR σ4 6 2 x (sgZ σ3)) 24 4) 6 3 x (sgZ σ4)) 0 1) 6 1 x = sgR σ4 6 1 x := by
    simp only [gR_putR, gR_mk]
    simp
  have row0 : ∀ w, sgR (mkC (putR (mkC (putR σ4 6 2 x (sgZ σ3)) 24 4) 6 3 x (sgZ σ4)) 0 1) 24 w (sgZ σ4) = 0 := fun w => by
    simp only [gR_putR, gR_mk, gZ_putR]
    simp
  have zu5 : sgZ (mkC (putR (mkC (putR σ4 6 2 x (sgZ σ3)) 24 4) 6 3 x (sgZ σ4)) 0 1) = sgZ σ4 + 2 ∧ sgU (mkC (putR (mkC (putR σ4 6 2 x (sgZ σ3)) 24 4) 6 3 x (sgZ σ4)) 0 1) = sgU σ4 + 5 := ⟨rfl, rfl⟩
  have e5 : mkC (putR (mkC (putR σ4 6 2 x (sgZ σ3)) 24 (4 : Int32).toNatClampNeg) 6 3 x (sgZ σ4)) 0 1 = mkC (putR (mkC (putR σ4 6 2 x (sgZ σ3)) 24 4) 6 3 x (sgZ σ4)) 0 1 := rfl
  rw [show ax_wp e0 mo 3 0 (0, ax_entry 0 [aR (sgZ σ4 + 1)], []) (mkC (putR (mkC (putR σ4 6 2 x (sgZ σ3)) 24 (4 : Int32).toNatClampNeg) 6 3 x (sgZ σ4)) 0 1) = ax_wp e0 mo 3 0 (0, ax_entry 0 [aR (sgZ σ4 + 1)], []) (mkC (putR (mkC (putR σ4 6 2 x (sgZ σ3)) 24 4) 6 3 x (sgZ σ4)) 0 1) from rfl]
  generalize mkC (putR (mkC (putR σ4 6 2 x (sgZ σ3)) 24 4) 6 3 x (sgZ σ4)) 0 1 = σ5 at F5 F45 kc5 kr5 x5 xo row0 zu5 ⊢
  refine ax_use (ct_0 (c := sgZ σ4 + 1) kc5 (by omega) (by omega) (by rw [F5.2.2.1 _ ze]; exact he0) (Nat.lt_of_lt_of_le ze F5.1) (fun _ => 0)) rfl fun w σ6 hw => ?_
  obtain ⟨rfl, d0, d1, d2, d3, d4⟩ := hw
  have n0 : ∀ q : Nat, ∀ k : Nat, (k ≠ 0 ∨ q ≠ sgZ σ4 + 1) → ¬ (k = 0 ∧ q = sgZ σ4 + 1) := fun q k a z => by
    rcases a with a | a
    · exact a z.1
    · exact a z.2
  have lm0 : ∀ {s s' : SG} {a el cap n : Nat} {f : Nat → Nat}, ax_li s a el cap n f → ax_F (fun k _ q => k = 0 ∧ q = sgZ σ4 + 1) s s' → ax_li s' a el cap n f := fun h hF => li_F h hF ⟨n0 _ _ (Or.inl (by decide)), n0 _ _ (Or.inl (by decide))⟩ (fun i => n0 _ _ (Or.inl (by decide)))
  have F6 : ax_F (fun k _ q => k = 6 ∧ q = x) σ σ6 := F_tr F5 d2 (fun k i q hq z => absurd z.2 (by omega))
  have k6 : sgK σ6 x = (6, 5) := by rw [F6.2.2.1 _ zx]; exact kx
  refine sg_32_53 (d := 3) ⟨ax_kd k6, rfl, ⟨(fun i => if i = 0 then sgZ σ else if i = 1 then sgZ σ2 else if i = 2 then sgZ σ3 else if i = 3 then sgZ σ4 else if i = 4 then sgZ σ4 + 1 else if i = 5 then sgZ σ5 else e0, fun _ => 0, fun _ _ _ _ => 0, fun _ => 0), ?_⟩, F6.putR fun _ => ⟨rfl, rfl⟩, by show sgZ σ6 = _; omega, by show sgU σ6 = _; omega⟩
  have P6 := pz σ6 4 (sgZ σ4 + 1)
  have x6 : ∀ i, sgR σ6 6 i x = sgR σ5 6 i x := fun i => (d2.2.2.2 6 i x (by omega) (n0 _ _ (Or.inl (by decide)))).2.2
  have r0 : sgR σ6 6 0 x = sgZ σ := by
    rw [x6, xo.1, (c2.2.2.2 6 0 x (show x < sgZ σ3 by omega) id).2.2, gR_putR, if_neg (fun z => absurd z.2.1 (by decide)), (b2.2.2.2 6 0 x (show x < sgZ σ2 by omega) id).2.2, gR_putR, if_pos ⟨rfl, rfl, rfl⟩]
  have r1 : sgR σ6 6 1 x = sgZ σ2 := by
    rw [x6, xo.2, (c2.2.2.2 6 1 x (show x < sgZ σ3 by omega) id).2.2, gR_putR, if_pos ⟨rfl, rfl, rfl⟩]
  have q0 : ∀ i, i ≠ 4 → sgR (putR σ6 6 4 x (sgZ σ4 + 1)) 6 i x = sgR σ6 6 i x := fun i hi => by rw [gR_putR, if_neg (fun z => hi z.2.1)]
  refine ⟨⟨k6, ⟨?_, ?_, ?_, ?_, ?_⟩, ?_, ?_, ?_⟩, ⟨?_, ?_, ?_, ?_, fun r hr => absurd hr (Nat.not_lt_zero r)⟩, fun k hk => absurd hk (Nat.not_lt_zero k), fun r hr => absurd hr (Nat.not_lt_zero r), fun r k hr => absurd hr (Nat.not_lt_zero r), fun r k j hr => absurd hr (Nat.not_lt_zero r), fun w hw => ?_, fun i hi => absurd hi (Nat.not_lt_zero i), ⟨by show x < sgZ σ6; omega, by show e0 < sgZ σ6; omega, fun i hi => ?_, fun t r k j => by show 0 < sgZ σ6; omega, fun i hi => absurd hi (Nat.not_lt_zero i)⟩, ?_, fun r i hr => absurd hr (Nat.not_lt_zero r), fun i j _ _ h0 => absurd rfl h0, fun r i hr => absurd hr (Nat.not_lt_zero r), fun i hi => ⟨Nat.zero_le _, fun _ => ?_⟩, fun r k k' hr => absurd hr (Nat.not_lt_zero r), fun r k hr => absurd hr (Nat.not_lt_zero r)⟩
  · rw [q0 0 (by decide)]; exact r0
  · rw [q0 1 (by decide)]; exact r1
  · rw [q0 2 (by decide), x6]; exact x5.1
  · rw [q0 3 (by decide), x6]; exact x5.2
  · rw [gR_putR]; exact if_pos ⟨rfl, rfl, rfl⟩
  · show sgK σ6 (sgZ σ4) = _
    rw [d2.2.2.1 _ (by omega)]; exact kr5
  · show sgK σ6 (sgZ σ4 + 1) = _
    rw [d2.2.2.1 _ (by omega)]; exact kc5
  · show sgR (putR σ6 6 4 x (sgZ σ4 + 1)) 0 0 (sgZ σ4 + 1) = _
    rw [gR_putR, if_neg (fun z => absurd z.1 (by decide))]; exact d0
  · exact li_f (lm (lm0 (lm (lm (lm (lm a1 (pz σ2 0 (sgZ σ))) (up b2)) ((pz σ3 1 (sgZ σ2)).trans (up c2))) F45) d2) P6) (fun i hi => absurd hi (Nat.not_lt_zero i))
  · exact li_f (lm (lm0 (lm (lm b1 ((pz σ3 1 (sgZ σ2)).trans (up c2))) F45) d2) P6) (fun i hi => absurd hi (Nat.not_lt_zero i))
  · exact li_f (lm (lm0 (lm c1 F45) d2) P6) (fun i hi => absurd hi (Nat.not_lt_zero i))
  · exact li_f (lm d1 P6) (fun i hi => absurd hi (Nat.not_lt_zero i))
  · show sgR (putR σ6 6 4 x (sgZ σ4 + 1)) 24 w (sgZ σ4) = 0
    rw [gR_putR, if_neg (fun z => absurd z.1 (by decide)), (d2.2.2.2 24 w _ (by omega) (n0 _ _ (Or.inl (by decide)))).2.2]
    exact row0 w
  · show (if i = 0 then sgZ σ else if i = 1 then sgZ σ2 else if i = 2 then sgZ σ3 else if i = 3 then sgZ σ4 else if i = 4 then sgZ σ4 + 1 else if i = 5 then sgZ σ5 else e0) < sgZ σ6
    repeat' split
    all_goals omega
  · intro i j hi hj
    show (if i = 0 then sgZ σ else if i = 1 then sgZ σ2 else if i = 2 then sgZ σ3 else if i = 3 then sgZ σ4 else if i = 4 then sgZ σ4 + 1 else if i = 5 then sgZ σ5 else e0) = (if j = 0 then sgZ σ else if j = 1 then sgZ σ2 else if j = 2 then sgZ σ3 else if j = 3 then sgZ σ4 else if j = 4 then sgZ σ4 + 1 else if j = 5 then sgZ σ5 else e0) → _
    rcases hi with rfl | rfl | rfl | rfl <;> rcases hj with rfl | rfl | rfl | rfl <;> simp <;> omega
  · show (if 6 + i = 0 then sgZ σ else if 6 + i = 1 then sgZ σ2 else if 6 + i = 2 then sgZ σ3 else if 6 + i = 3 then sgZ σ4 else if 6 + i = 4 then sgZ σ4 + 1 else if 6 + i = 5 then sgZ σ5 else e0) = e0
    rw [if_neg (by omega), if_neg (by omega), if_neg (by omega), if_neg (by omega), if_neg (by omega), if_neg (by omega)]
end
end AXRZ
