/-! The class: a new run gets a part. -/
section AXRU
section
variable {e0 mo : Nat} {σ σ' σ1 : SG} {x : Nat} {L : LY} {A A' : MS} {r k j p w : Nat}
/-- which jobs a stage has -/
def slB (v : Nat → Nat) (j : Nat) : Bool := Nat.blt j (v 1 * v 2) && !(mBit (v 3) j)
/-- a new part -/
def nrP (σ : SG) (u n0 : Nat) (v : Nat → Nat) (p0 p1 p2 : Nat) (gj : Nat → Nat) : Prop := (sgK σ p0 = (3, 3) ∧ sgR σ 3 0 p0 = u ∧ sgR σ 3 1 p0 = p1 ∧ sgR σ 3 2 p0 = p2) ∧ (sgK σ p1 = (5, 10) ∧ sgI σ 5 0 p1 = nI n0 ∧ ∀ f, 1 ≤ f → f ≤ 9 → sgI σ 5 f p1 = nI (v f)) ∧ sgK σ p2 = (24, 16) ∧ (∀ j, j < 16 → (slB v j = true → jbOK σ p0 j (gj j) ∧ 0 < gj j ∧ sgR σ 24 j p2 = gj j) ∧ (slB v j = false → sgR σ 24 j p2 = 0)) ∧ p0 < sgZ σ ∧ p1 < sgZ σ ∧ p2 < sgZ σ ∧ ∀ j, gj j < sgZ σ
theorem nrP_F {W : Nat → Nat → Nat → Prop} {u n0 p0 p1 p2 : Nat} {v gj : Nat → Nat} (h : nrP σ u n0 v p0 p1 p2 gj) (hF : ax_F W σ σ') (no : ∀ k' i q, k' ≠ 8 → k' ≠ 23 → ¬ W k' i q) : nrP σ' u n0 v p0 p1 p2 gj := by
  obtain ⟨⟨a1, a2, a3, a4⟩, ⟨b1, b2, b3⟩, c1, c2, z0, z1, z2, z3⟩ := h
  refine ⟨⟨by rw [hF.2.2.1 _ z0]; exact a1, ?_, ?_, ?_⟩, ⟨by rw [hF.2.2.1 _ z1]; exact b1, ?_, fun f d1 d2 => ?_⟩, by rw [hF.2.2.1 _ z2]; exact c1, fun j hj => ⟨fun s => ?_, fun s => ?_⟩, Nat.lt_of_lt_of_le z0 hF.1, Nat.lt_of_lt_of_le z1 hF.1, Nat.lt_of_lt_of_le z2 hF.1, fun j => Nat.lt_of_lt_of_le (z3 j) hF.1⟩
  · rw [(hF.2.2.2 3 0 _ z0 (no _ _ _ (by decide) (by decide))).2.2]; exact a2
  · rw [(hF.2.2.2 3 1 _ z0 (no _ _ _ (by decide) (by decide))).2.2]; exact a3
  · rw [(hF.2.2.2 3 2 _ z0 (no _ _ _ (by decide) (by decide))).2.2]; exact a4
  · rw [(hF.2.2.2 5 0 _ z1 (no _ _ _ (by decide) (by decide))).1]; exact b2
  · rw [(hF.2.2.2 5 f _ z1 (no _ _ _ (by decide) (by decide))).1]; exact b3 f d1 d2
  · obtain ⟨e1, e2, e3⟩ := (c2 j hj).1 s
    refine ⟨jbOK_F e1 hF (z3 j) (fun i => no _ _ _ (by decide) (by decide)), e2, ?_⟩
    rw [(hF.2.2.2 24 j _ z2 (no _ _ _ (by decide) (by decide))).2.2]; exact e3
  · rw [(hF.2.2.2 24 j _ z2 (no _ _ _ (by decide) (by decide))).2.2]; exact (c2 j hj).2 s
theorem ct_19 {u pl el cap t st n0 : Nat} {f v : Nat → Nat} (ku : sgK σ u = (4, 5)) (zu : u < sgZ σ) (ru : sgR σ 4 3 u = pl) (li : ax_li σ pl el cap t f) (h0 : cap = 0 → el = e0) (hc : cap ≤ 100) (hf : ∀ j, j < t → f j < sgZ σ ∧ (sgK σ (f j)).1 < 9) (hk : sgK σ st = (5, 10)) (hz : st < sgZ σ) (hn0 : sgI σ 5 0 st = nI n0) (hv : ∀ f, 1 ≤ f → f ≤ 9 → sgI σ 5 f st = nI (v f)) (hb : ∀ f, 7 ≤ f → f ≤ 9 → v f ≤ 1) (hn : v 3 < 2 ^ 31) (hab : v 1 * v 2 < 32) : ax_ok e0 mo 6 19 [aR u, aR st] σ (fun w σ2 => w = aU ∧ ∃ p0 p1 p2 gj el' cap', nrP σ2 u n0 v p0 p1 p2 gj ∧ (0 < p0 ∧ sgZ σ ≤ p1) ∧ ax_li σ2 pl el' cap' (t + 1) (fun j => if j = t then p0 else f j) ∧ ax_F (fun k _ q => (k = 8 ∧ q = pl) ∨ (k = 23 ∧ q = el)) σ σ2 ∧ ((el' = el ∧ cap' = cap) ∨ (sgZ σ ≤ el' ∧ t = cap ∧ cap' = ax_cap cap)) ∧ sgZ σ2 ≤ sgZ σ + 20 ∧ sgU σ2 ≤ sgU σ + 141 + ax_cap cap) := by
  have plz : pl < sgZ σ := li.2.2.2.2.2.2.1
  have km : sgK (mkC σ 3 3) st = (5, 10) := by rw [gK_mk, if_neg (Nat.ne_of_lt hz)]; exact hk
  refine sg_19_0 (d := 5) ⟨ax_kd km, ?_⟩
  refine ax_use (ct_28 (n0 := n0) (v := v) km (Nat.lt_succ_of_lt hz) (by rw [gI_mk, if_neg (fun z => absurd z.1 (by decide))]; exact hn0) (fun f a b => by rw [gI_mk, if_neg (fun z => absurd z.1 (by decide))]; exact hv f a b) hb) rfl fun w σ2 hw => ?_
  obtain ⟨rfl, F2, z2, u2, k2, i20, i2⟩ := hw
  have z2 : sgZ σ2 = sgZ σ + 2 := z2
  have u2 : sgU σ2 = sgU σ + 3 + 10 := u2
  have zN : sgZ (mkC σ 3 3) = sgZ σ + 1 := rfl
  rw [zN] at k2 i20 i2
  have F1 : ax_F (fun _ _ _ => False) σ (mkC σ 3 3) := (ax_F.refl _ _).mkC
  have F02 := F1.trans F2
  have kN : sgK σ2 (sgZ σ) = (3, 3) := by
    rw [F2.2.2.1 _ (show sgZ σ < sgZ σ + 1 by omega), gK_mk, if_pos rfl]
  rw [zN]
  refine sg_19_9 (d := 5) ⟨by omega, ?_⟩
  have c10 : ax_ok e0 mo 0 10 [aR (sgZ σ), aR u, aR (sgZ σ + 1)] σ2 (fun w σ3 => w = aU ∧ σ3 = putR (mkC (putR (putR σ2 3 0 (sgZ σ) u) 3 1 (sgZ σ) (sgZ σ + 1)) 24 16) 3 2 (sgZ σ) (sgZ σ2)) := sg_10_0 ⟨⟨by show (0 : Nat) ≤ 8; decide, by omega⟩, ax_kd kN, ax_kd kN, ⟨by decide, by decide⟩, by
    show (sgK (mkC (putR (putR σ2 3 0 (sgZ σ) u) 3 1 (sgZ σ) (sgZ σ + 1)) 24 16) (sgZ σ)).1 = 3
    rw [gK_mk, gZ_putR, gZ_putR, if_neg (show ¬ sgZ σ = sgZ σ2 by omega)]
    exact ax_kd kN, rfl, rfl⟩
  refine ax_use c10 rfl fun w σ3 hw => ?_
  obtain ⟨rfl, hσ3⟩ := hw
  have z3 : sgZ σ3 = sgZ σ + 3 := by rw [hσ3]; show sgZ σ2 + 1 = _; omega
  have u3 : sgU σ3 = sgU σ + 29 := by rw [hσ3]; show sgU σ2 + 16 = _; omega
  have nzz : ∀ P : Prop, sgZ σ < sgZ σ → P := fun P z => absurd z (Nat.lt_irrefl _)
  have F03 : ax_F (fun _ _ _ => False) σ σ3 := by
    rw [hσ3]
    exact (((F02.putR fun z => nzz _ z).putR fun z => nzz _ z).mkC).putR fun z => nzz _ z
  have kN3 : sgK σ3 (sgZ σ) = (3, 3) := by
    rw [hσ3]
    show sgK (mkC (putR (putR σ2 3 0 (sgZ σ) u) 3 1 (sgZ σ) (sgZ σ + 1)) 24 16) (sgZ σ) = _
    rw [gK_mk, gZ_putR, gZ_putR, if_neg (show ¬ sgZ σ = sgZ σ2 by omega)]
    exact kN
  have k13 : sgK σ3 (sgZ σ + 1) = (5, 10) := by
    rw [hσ3]
    show sgK (mkC (putR (putR σ2 3 0 (sgZ σ) u) 3 1 (sgZ σ) (sgZ σ + 1)) 24 16) (sgZ σ + 1) = _
    rw [gK_mk, gZ_putR, gZ_putR, if_neg (show ¬ sgZ σ + 1 = sgZ σ2 by omega)]
    exact k2
  have k23 : sgK σ3 (sgZ σ + 2) = (24, 16) := by
    rw [hσ3]
    show sgK (mkC (putR (putR σ2 3 0 (sgZ σ) u) 3 1 (sgZ σ) (sgZ σ + 1)) 24 16) (sgZ σ + 2) = _
    rw [gK_mk, gZ_putR, gZ_putR, if_pos (show sgZ σ + 2 = sgZ σ2 by omega)]
  have r0 : sgR σ3 3 0 (sgZ σ) = u ∧ sgR σ3 3 1 (sgZ σ) = sgZ σ + 1 ∧ sgR σ3 3 2 (sgZ σ) = sgZ σ + 2 := by
    rw [hσ3]
    refine ⟨?_, ?_, ?_⟩
    · rw [gR_putR, if_neg (fun z => absurd z.2.1 (by decide)), gR_mk, if_neg (fun z => absurd z.1 (by decide)), gR_putR, if_neg (fun z => absurd z.2.1 (by decide)), gR_putR, if_pos ⟨rfl, rfl, rfl⟩]
    · rw [gR_putR, if_neg (fun z => absurd z.2.1 (by decide)), gR_mk, if_neg (fun z => absurd z.1 (by decide)), gR_putR, if_pos ⟨rfl, rfl, rfl⟩]
    · rw [gR_putR, if_pos ⟨rfl, rfl, rfl⟩, z2]
  have i3 : sgI σ3 5 0 (sgZ σ + 1) = nI n0 ∧ ∀ f, 1 ≤ f → f ≤ 9 → sgI σ3 5 f (sgZ σ + 1) = nI (v f) := by
    rw [hσ3]
    refine ⟨?_, fun f a b => ?_⟩
    · rw [gI_putR, gI_mk, if_neg (fun z => absurd z.1 (by decide)), gI_putR, gI_putR]; exact i20
    · rw [gI_putR, gI_mk, if_neg (fun z => absurd z.1 (by decide)), gI_putR, gI_putR]; exact i2 f a b
  have zero : ∀ j, j < 16 → sgR σ3 24 j (sgZ σ + 2) = 0 := fun j _ => by
    rw [hσ3, gR_putR, if_neg (fun z => absurd z.1 (by decide)), gR_mk, if_pos ⟨rfl, show sgZ σ + 2 = sgZ σ2 by omega⟩]
  clear hσ3 c10
  refine sg_19_12 (d := 5) ⟨ax_kd kN3, ?_⟩
  refine ax_use (ct_11 (a := v 1) (b := v 2) (n := v 3) kN3 r0.2.1 r0.2.2 k13 k23 (by omega) (by omega) (by omega) (i3.2 1 (by decide) (by decide)) (i3.2 2 (by decide) (by decide)) (i3.2 3 (by decide) (by decide)) hn hab zero) rfl fun w σ4 hw => ?_
  obtain ⟨rfl, gj, g1, g2, g3, g4, g5, g6⟩ := hw
  have F04 : ax_F (fun _ _ _ => False) σ σ4 := by
    refine ⟨Nat.le_trans F03.1 g1.1, Nat.le_trans F03.2.1 g1.2.1, fun q hq => ?_, fun k i q hq _ => ?_⟩
    · rw [g1.2.2.1 q (by omega)]; exact F03.2.2.1 q hq
    · obtain ⟨e1, e2, e3⟩ := g1.2.2.2 k i q (by omega) (fun z => by have := z.2; omega)
      obtain ⟨d1, d2, d3⟩ := F03.2.2.2 k i q hq id
      exact ⟨e1.trans d1, e2.trans d2, e3.trans d3⟩
  have n3 : ∀ k' i q : Nat, k' ≠ 24 → ¬ (k' = 24 ∧ q = sgZ σ + 2) := fun k' i q a z => a z.1
  have nr4 : nrP σ4 u n0 v (sgZ σ) (sgZ σ + 1) (sgZ σ + 2) gj := by
    refine ⟨⟨by rw [g1.2.2.1 _ (by omega)]; exact kN3, ?_, ?_, ?_⟩, ⟨by rw [g1.2.2.1 _ (by omega)]; exact k13, ?_, fun f a b => ?_⟩, by rw [g1.2.2.1 _ (by omega)]; exact k23, fun j hj => ⟨fun s => ?_, fun s => g6 j hj (Or.inr s)⟩, by have := g1.1; omega, by have := g1.1; omega, by have := g1.1; omega, g5⟩
    · rw [(g1.2.2.2 3 0 _ (by omega) (n3 _ 0 _ (by decide))).2.2]; exact r0.1
    · rw [(g1.2.2.2 3 1 _ (by omega) (n3 _ 0 _ (by decide))).2.2]; exact r0.2.1
    · rw [(g1.2.2.2 3 2 _ (by omega) (n3 _ 0 _ (by decide))).2.2]; exact r0.2.2
    · rw [(g1.2.2.2 5 0 _ (by omega) (n3 _ 0 _ (by decide))).1]; exact i3.1
    · rw [(g1.2.2.2 5 f _ (by omega) (n3 _ 0 _ (by decide))).1]; exact i3.2 f a b
    · obtain ⟨e1, e2, e3⟩ := g4 j hj s
      exact ⟨e1, by omega, e3⟩
  have ku4 : sgK σ4 u = (4, 5) := by rw [F04.2.2.1 _ zu]; exact ku
  have ru4 : sgR σ4 4 3 u = pl := by rw [(F04.2.2.2 4 3 _ zu id).2.2]; exact ru
  have li4 := li_Fn li F04
  refine sg_19_17 (d := 5) ⟨ax_kd ku4, ?_⟩
  rw [ru4]
  refine ⟨ax_kd li4.1, ax_use (ct_163 li4 h0 (by omega) (fun j hj => ?_) (by rw [nr4.1.1]; show (3 : Nat) < 9; decide) nr4.2.2.2.2.1) rfl fun w σ5 hw => ?_⟩
  · obtain ⟨e1, e2⟩ := hf j hj
    refine ⟨Nat.lt_of_lt_of_le e1 F04.1, ?_⟩
    rw [F04.2.2.1 _ e1]; exact e2
  · obtain ⟨rfl, el', cap', d1, d2, d3⟩ := hw
    have hcap := ax_cap_le cap
    refine sg_19_25 (d := 5) ⟨rfl, sgZ σ, sgZ σ + 1, sgZ σ + 2, gj, el', cap', nrP_F nr4 d2 (fun k' i q a b z => ?_), ⟨by omega, by omega⟩, d1, (F04.mono fun _ _ _ _ z => z.elim).trans d2, ?_, ?_, ?_⟩
    · rcases z with z | z
      · exact a z.1
      · exact b z.1
    · rcases d3 with ⟨c1, c2, c3, c4⟩ | ⟨c1, c2, c3, c4, c5⟩
      · exact Or.inl ⟨c1, c2⟩
      · exact Or.inr ⟨by rw [c1]; exact F04.1, c2, c3⟩
    · rcases d3 with ⟨c1, c2, c3, c4⟩ | ⟨c1, c2, c3, c4, c5⟩ <;> omega
    · rcases d3 with ⟨c1, c2, c3, c4⟩ | ⟨c1, c2, c3, c4, c5⟩ <;> omega
end
end AXRU
