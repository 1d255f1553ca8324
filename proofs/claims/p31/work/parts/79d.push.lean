/-! The class: push. -/
section AXRW
theorem F_tr {W W2 : Nat → Nat → Nat → Prop} {σ σ1 σ2 : SG} (h1 : ax_F W σ σ1) (h2 : ax_F W2 σ1 σ2) (hw : ∀ k i q, q < sgZ σ → W2 k i q → W k i q) : ax_F W σ σ2 := by
  refine ⟨Nat.le_trans h1.1 h2.1, Nat.le_trans h1.2.1 h2.2.1, fun q hq => ?_, fun k i q hq hn => ?_⟩
  · rw [h2.2.2.1 q (Nat.lt_of_lt_of_le hq h1.1)]; exact h1.2.2.1 q hq
  · obtain ⟨e1, e2, e3⟩ := h2.2.2.2 k i q (Nat.lt_of_lt_of_le hq h1.1) (fun z => hn (hw k i q hq z))
    obtain ⟨d1, d2, d3⟩ := h1.2.2.2 k i q hq hn
    exact ⟨e1.trans d1, e2.trans d2, e3.trans d3⟩
section
variable {e0 mo : Nat} {σ σ' σ1 : SG} {x : Nat} {L : LY} {A A' : MS} {r k j p w : Nat}
/-- the new run's own row -/
def nrU (σ : SG) (u i3 pl R b x1 y1 z1 : Nat) : Prop := (sgK σ u = (4, 5) ∧ sgI σ 4 0 u = nI R ∧ sgI σ 4 1 u = nI b ∧ sgR σ 4 2 u = i3 ∧ sgR σ 4 3 u = pl) ∧ sgI σ 4 4 u = nI 7 ∧ sgK σ i3 = (20, 3) ∧ sgI σ 20 0 i3 = nI x1 ∧ sgI σ 20 1 i3 = nI y1 ∧ sgI σ 20 2 i3 = nI z1
theorem nrU_F {W : Nat → Nat → Nat → Prop} {u i3 pl R b x1 y1 z1 : Nat} (h : nrU σ u i3 pl R b x1 y1 z1) (hF : ax_F W σ σ') (zu : u < sgZ σ) (zi : i3 < sgZ σ) (no : ∀ k' i q, k' ≠ 8 → k' ≠ 23 → ¬ W k' i q) : nrU σ' u i3 pl R b x1 y1 z1 := by
  obtain ⟨⟨a1, a2, a3, a4, a5⟩, a6, a7, a8, a9, a10⟩ := h
  refine ⟨⟨by rw [hF.2.2.1 _ zu]; exact a1, ?_, ?_, ?_, ?_⟩, ?_, by rw [hF.2.2.1 _ zi]; exact a7, ?_, ?_, ?_⟩
  · rw [(hF.2.2.2 4 0 _ zu (no _ _ _ (by decide) (by decide))).1]; exact a2
  · rw [(hF.2.2.2 4 1 _ zu (no _ _ _ (by decide) (by decide))).1]; exact a3
  · rw [(hF.2.2.2 4 2 _ zu (no _ _ _ (by decide) (by decide))).2.2]; exact a4
  · rw [(hF.2.2.2 4 3 _ zu (no _ _ _ (by decide) (by decide))).2.2]; exact a5
  · rw [(hF.2.2.2 4 4 _ zu (no _ _ _ (by decide) (by decide))).1]; exact a6
  · rw [(hF.2.2.2 20 0 _ zi (no _ _ _ (by decide) (by decide))).1]; exact a8
  · rw [(hF.2.2.2 20 1 _ zi (no _ _ _ (by decide) (by decide))).1]; exact a9
  · rw [(hF.2.2.2 20 2 _ zi (no _ _ _ (by decide) (by decide))).1]; exact a10
theorem ct_18 {u i3 R b x1 y1 z1 : Nat} (ku : sgK σ u = (4, 5)) (zu : u < sgZ σ) (hu0 : 0 < u) (ki : sgK σ i3 = (20, 3)) (zi : i3 < sgZ σ) (j0 : sgI σ 20 0 i3 = nI x1) (j1 : sgI σ 20 1 i3 = nI y1) (j2 : sgI σ 20 2 i3 = nI z1) (he0 : sgK σ e0 = (23, 0)) (ze : e0 < sgZ σ) (f : Nat → Nat) : ax_ok e0 mo 3 18 [aR u, aI (nI R), aI (nI b), aR i3] σ (fun w σ2 => w = aU ∧ nrU σ2 u i3 (sgZ σ) R b x1 y1 z1 ∧ ax_li σ2 (sgZ σ) e0 0 0 f ∧ ax_F (fun k _ q => k = 4 ∧ q = u) σ σ2 ∧ sgZ σ2 = sgZ σ + 1 ∧ sgU σ2 = sgU σ + 3) := by
  have ne : u ≠ sgZ σ := Nat.ne_of_lt zu
  have nei : i3 ≠ sgZ σ := Nat.ne_of_lt zi
  have nee : e0 ≠ sgZ σ := Nat.ne_of_lt ze
  refine sg_18_0 (d := 2) ⟨⟨by show (0 : Nat) ≤ 8; decide, hu0⟩, ax_kd ku, ax_kd ku, ax_kd ku, by omega, ?_⟩
  have km : sgK (mkC (putR (putI (putI σ 4 0 u (nI R)) 4 1 u (nI b)) 4 2 u i3) 8 3) (sgZ σ) = (8, 3) := by rw [gK_mk]; exact if_pos rfl
  refine ax_use (ct_154 km (by omega)) rfl fun w σ2 hw => ?_
  obtain ⟨rfl, hσ2⟩ := hw
  have ku2 : sgK σ2 u = (4, 5) := by
    rw [hσ2]
    show sgK (mkC (putR (putI (putI σ 4 0 u (nI R)) 4 1 u (nI b)) 4 2 u i3) 8 3) u = _
    rw [gK_mk]
    exact (if_neg ne).trans ku
  refine sg_18_27 (d := 2) ⟨ax_kd ku2, ax_kd ku2, rfl, ?_⟩
  have nz : ∀ P : Prop, sgZ σ < sgZ σ → P := fun P z => absurd z (Nat.lt_irrefl _)
  have F : ax_F (fun k _ q => k = 4 ∧ q = u) σ (putI (putR σ2 4 3 u (sgZ σ)) 4 4 u 7) := by
    rw [hσ2]
    exact ((((((((ax_F.refl _ _).putI fun _ => ⟨rfl, rfl⟩).putI fun _ => ⟨rfl, rfl⟩).putR fun _ => ⟨rfl, rfl⟩).mkC).putI fun z => nz _ z).putR fun z => nz _ z).putR fun _ => ⟨rfl, rfl⟩).putI fun _ => ⟨rfl, rfl⟩
  refine ⟨⟨⟨ku2, ?_, ?_, ?_, ?_⟩, ?_, ?_, ?_, ?_, ?_⟩, ⟨?_, ?_, ?_, ?_, Nat.le_refl _, by decide, ?_, ?_, fun i hi => absurd hi (Nat.not_lt_zero i), fun i a c => absurd c (Nat.not_lt_zero i)⟩, F, ?_, ?_⟩
  · rw [hσ2]; simp only [gI_putI, gI_putR, gI_mk]; simp
  · rw [hσ2]; simp only [gI_putI, gI_putR, gI_mk]; simp
  · rw [hσ2]; simp only [gR_putI, gR_putR, gR_mk]; simp
  · simp only [gR_putI, gR_putR]; simp
  · simp only [gI_putI]; simp; rfl
  · rw [F.2.2.1 _ zi]; exact ki
  · rw [(F.2.2.2 20 0 _ zi (fun z => absurd z.1 (by decide))).1]; exact j0
  · rw [(F.2.2.2 20 1 _ zi (fun z => absurd z.1 (by decide))).1]; exact j1
  · rw [(F.2.2.2 20 2 _ zi (fun z => absurd z.1 (by decide))).1]; exact j2
  · rw [hσ2]; exact km
  · rw [hσ2]; simp only [gI_putI, gI_putR, gI_mk, gZ_putI, gZ_putR]; simp <;> rfl
  · rw [hσ2]; simp only [gR_putI, gR_putR, gR_mk]; simp
  · rw [F.2.2.1 _ ze]; exact he0
  · rw [hσ2]; exact Nat.lt_succ_self _
  · exact Nat.lt_of_lt_of_le ze F.1
  · rw [hσ2]; rfl
  · rw [hσ2]; rfl
/-- a new run with t parts -/
def nrI (σ1 : SG) (e0 : Nat) (B : MS) (u i3 pl b x1 y1 z1 t : Nat) (σc : SG) (ep cap : Nat) (P0 P1 P2 : Nat → Nat) (G : Nat → Nat → Nat) : Prop := ax_F (fun k _ q => k = 23 ∧ q = e0) σ1 σc ∧ nrU σc u i3 pl (mR B) b x1 y1 z1 ∧ ax_li σc pl ep cap t P0 ∧ ((t = 0 ∧ cap = 0 ∧ ep = e0) ∨ (0 < t ∧ cap = 10 ∧ sgZ σ1 ≤ ep)) ∧ (∀ k, k < t → nrP σc u k (fun f => mS B f k) (P0 k) (P1 k) (P2 k) (G k) ∧ 0 < P0 k ∧ sgZ σ1 ≤ P1 k) ∧ (∀ k, P0 k < sgZ σc ∧ P1 k < sgZ σc ∧ P2 k < sgZ σc ∧ ∀ j, G k j < sgZ σc) ∧ (sgZ σc ≤ sgZ σ1 + 3 + 20 * t ∧ sgU σc ≤ sgU σ1 + 11 + 175 * t) ∧ (u < sgZ σc ∧ i3 < sgZ σc) ∧ sgZ σ1 ≤ pl
theorem nr_step {B : MS} {u i3 pl b x1 y1 z1 t ep cap : Nat} {P0 P1 P2 : Nat → Nat} {G : Nat → Nat → Nat} {σc : SG} (h : ax_rc e0 σ1 x L B) (hI : mB B) (g : nrI σ1 e0 B u i3 pl b x1 y1 z1 t σc ep cap P0 P1 P2 G) (ht : t < mN B) : ax_ok e0 mo 6 19 [aR u, aR (gS L t)] σc (fun w σ2 => w = aU ∧ ∃ ep' cap' P0' P1' P2' G', nrI σ1 e0 B u i3 pl b x1 y1 z1 (t + 1) σ2 ep' cap' P0' P1' P2' G') := by
  obtain ⟨g1, g2, g3, g4, g5, g6, g7, g8, g9⟩ := g
  obtain ⟨hb, hf, hx, hge⟩ := rc_hb h
  have hz := hb 0 t 0 0
  have hN := hI.1.1
  obtain ⟨s1, s2, s3⟩ := h.2.2.1 t ht
  obtain ⟨b1, b2, b3, b4⟩ := mB_jobs hI ht
  obtain ⟨m5, m6, m7, m8, m9⟩ := hI.2.2.1 t
  have n23 : ∀ i : Nat, ¬ ((5 : Nat) = 23 ∧ gS L t = e0) := fun i z => absurd z.1 (by decide)
  have hcap : cap ≤ 10 := by omega
  refine ax_okw (ct_19 (t := t) (n0 := t) (v := fun f => mS B f t) g2.1.1 g8.1 g2.1.2.2.2.2 g3 (fun c => by rcases g4 with g4 | g4 <;> omega) (by omega) (fun j hj => ?_) (by rw [g1.2.2.1 _ hz]; exact s1) (Nat.lt_of_lt_of_le hz g1.1) (by rw [(g1.2.2.2 5 0 _ hz (n23 0)).1]; exact s2) (fun f a c => by rw [(g1.2.2.2 5 f _ hz (n23 0)).1]; exact s3 f a c) (fun f a c => ?_) (show mS B 3 t < 2 ^ 31 by omega) (show mS B 1 t * mS B 2 t < 32 by omega)) fun w σ2 hw => ?_
  · obtain ⟨⟨c1, -⟩, -, -⟩ := g5 j hj
    refine ⟨(g6 j).1, ?_⟩
    rw [c1.1]; show (3 : Nat) < 9; decide
  · have ef : f = 7 ∨ f = 8 ∨ f = 9 := by omega
    rcases ef with rfl | rfl | rfl
    · exact m7
    · exact m8
    · exact m9
  · obtain ⟨rfl, p0, p1, p2, gj, ep', cap', d1, ⟨d2, d3⟩, d4, d5, d6, d7, d8⟩ := hw
    have no : ∀ k' i q : Nat, k' ≠ 8 → k' ≠ 23 → ¬ ((k' = 8 ∧ q = pl) ∨ (k' = 23 ∧ q = ep)) := fun k' i q a b z => by
      rcases z with z | z
      · exact a z.1
      · exact b z.1
    have hcl := ax_cap_le cap
    have d1z := d1.2.2.2.2
    refine ⟨rfl, ep', cap', fun i => if i = t then p0 else P0 i, fun i => if i = t then p1 else P1 i, fun i => if i = t then p2 else P2 i, fun i => if i = t then gj else G i, F_tr g1 d5 (fun k i q hq z => ?_), nrU_F g2 d5 g8.1 g8.2 no, d4, ?_, fun k hk => ?_, fun k => ?_, ⟨by omega, by omega⟩, ⟨Nat.lt_of_lt_of_le g8.1 d5.1, Nat.lt_of_lt_of_le g8.2 d5.1⟩, g9⟩
    · rcases z with z | z
      · exact absurd z.2 (by omega)
      · refine ⟨z.1, ?_⟩
        rcases g4 with g4 | g4
        · rw [z.2]; exact g4.2.2
        · exact absurd z.2 (by omega)
    · right
      have hle := d4.2.2.2.2.1
      have := g1.1
      rcases d6 with ⟨c1, c2⟩ | ⟨c1, c2, c3⟩
      · rcases g4 with g4 | g4
        · omega
        · exact ⟨by omega, by omega, by omega⟩
      · rcases g4 with g4 | g4
        · refine ⟨by omega, ?_, by omega⟩
          rw [c3, g4.2.1]; rfl
        · omega
    · show nrP σ2 u k (fun f => mS B f k) (if k = t then p0 else P0 k) (if k = t then p1 else P1 k) (if k = t then p2 else P2 k) (if k = t then gj else G k) ∧ 0 < (if k = t then p0 else P0 k) ∧ sgZ σ1 ≤ (if k = t then p1 else P1 k)
      by_cases z : k = t
      · rw [if_pos z, if_pos z, if_pos z, if_pos z, z]
        exact ⟨d1, d2, Nat.le_trans g1.1 d3⟩
      · rw [if_neg z, if_neg z, if_neg z, if_neg z]
        obtain ⟨c1, c2, c3⟩ := g5 k (by omega)
        exact ⟨nrP_F c1 d5 no, c2, c3⟩
    · show (if k = t then p0 else P0 k) < sgZ σ2 ∧ (if k = t then p1 else P1 k) < sgZ σ2 ∧ (if k = t then p2 else P2 k) < sgZ σ2 ∧ ∀ j, (if k = t then gj else G k) j < sgZ σ2
      by_cases z : k = t
      · rw [if_pos z, if_pos z, if_pos z, if_pos z]
        exact ⟨d1z.1, d1z.2.1, d1z.2.2.1, d1z.2.2.2⟩
      · rw [if_neg z, if_neg z, if_neg z, if_neg z]
        obtain ⟨c1, c2, c3, c4⟩ := g6 k
        exact ⟨Nat.lt_of_lt_of_le c1 d5.1, Nat.lt_of_lt_of_le c2 d5.1, Nat.lt_of_lt_of_le c3 d5.1, fun j => Nat.lt_of_lt_of_le (c4 j) d5.1⟩
end
end AXRW
