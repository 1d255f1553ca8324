/-! The class: a new run's parts. -/
section AXRT
section
variable {e0 mo : Nat} {σ σ' σ1 : SG} {x : Nat} {L : LY} {A A' : MS} {r k j p w : Nat}
theorem li_Fn {a el cap n : Nat} {f : Nat → Nat} (h : ax_li σ a el cap n f) (hF : ax_F (fun _ _ _ => False) σ σ') : ax_li σ' a el cap n f := li_F h hF ⟨id, id⟩ (fun _ => id)
/-- a stage is copied -/
theorem ct_28 {st n0 : Nat} {v : Nat → Nat} (hk : sgK σ st = (5, 10)) (hz : st < sgZ σ) (h0 : sgI σ 5 0 st = nI n0) (hv : ∀ f, 1 ≤ f → f ≤ 9 → sgI σ 5 f st = nI (v f)) (hb : ∀ f, 7 ≤ f → f ≤ 9 → v f ≤ 1) : ax_ok e0 mo 1 28 [aR st] σ (fun w σ2 => w = aR (sgZ σ) ∧ ax_F (fun _ _ _ => False) σ σ2 ∧ sgZ σ2 = sgZ σ + 1 ∧ sgU σ2 = sgU σ + 10 ∧ sgK σ2 (sgZ σ) = (5, 10) ∧ sgI σ2 5 0 (sgZ σ) = nI n0 ∧ ∀ f, 1 ≤ f → f ≤ 9 → sgI σ2 5 f (sgZ σ) = nI (v f)) := by
  have km : sgK (mkC σ 5 10) st = (5, 10) := by rw [gK_mk, if_neg (Nat.ne_of_lt hz)]; exact hk
  have kz : sgK (mkC σ 5 10) (sgZ σ) = (5, 10) := by rw [gK_mk, if_pos rfl]
  have ne : st ≠ sgZ σ := Nat.ne_of_lt hz
  have im : ∀ f, sgI (mkC σ 5 10) 5 f st = sgI σ 5 f st := fun f => by rw [gI_mk, if_neg (fun z => ne z.2)]
  refine sg_28_0 (d := 0) ⟨ax_kd km, ax_kd km, ax_kd km, by omega, ?_⟩
  rw [im, im, im, h0, hv 1 (by decide) (by decide), hv 2 (by decide) (by decide)]
  have c27 : ax_ok e0 mo 0 27 [aR (sgZ σ), aI (nI n0), aI (nI (v 1)), aI (nI (v 2))] (mkC σ 5 10) (fun w σ2 => w = aU ∧ σ2 = putI (putI (putI (putI (mkC σ 5 10) 5 0 (sgZ σ) (nI n0)) 5 1 (sgZ σ) (nI (v 1))) 5 2 (sgZ σ) (nI (v 2))) 5 9 (sgZ σ) 1) := sg_27_0 ⟨⟨by show (0 : Nat) ≤ 8; decide, by omega⟩, ax_kd kz, ax_kd kz, ax_kd kz, ⟨Or.inr rfl, ax_kd kz⟩, rfl, rfl⟩
  refine ax_use c27 rfl fun w σ2 hw => ?_
  obtain ⟨rfl, hσ2⟩ := hw
  have nz : ∀ P : Prop, sgZ σ < sgZ σ → P := fun P z => absurd z (Nat.lt_irrefl _)
  have F2 : ax_F (fun _ _ _ => False) σ σ2 := by
    rw [hσ2]
    exact (((((ax_F.refl _ _).mkC).putI fun z => nz _ z).putI fun z => nz _ z).putI fun z => nz _ z).putI fun z => nz _ z
  have z2 : sgZ σ2 = sgZ σ + 1 := by rw [hσ2]; rfl
  have u2 : sgU σ2 = sgU σ + 10 := by rw [hσ2]; rfl
  have k2 : sgK σ2 (sgZ σ) = (5, 10) := by rw [hσ2]; exact kz
  have k2s : sgK σ2 st = (5, 10) := by rw [F2.2.2.1 _ hz]; exact hk
  have i2s : ∀ f, 1 ≤ f → f ≤ 9 → sgI σ2 5 f st = nI (v f) := fun f a b => by rw [(F2.2.2.2 5 f st hz id).1]; exact hv f a b
  have i20 : sgI σ2 5 0 (sgZ σ) = nI n0 ∧ sgI σ2 5 1 (sgZ σ) = nI (v 1) ∧ sgI σ2 5 2 (sgZ σ) = nI (v 2) := by
    rw [hσ2]
    refine ⟨?_, ?_, ?_⟩
    · rw [gI_putI, if_neg (fun z => absurd z.2.1 (by decide)), gI_putI, if_neg (fun z => absurd z.2.1 (by decide)), gI_putI, if_neg (fun z => absurd z.2.1 (by decide)), gI_putI, if_pos ⟨rfl, rfl, rfl⟩]
    · rw [gI_putI, if_neg (fun z => absurd z.2.1 (by decide)), gI_putI, if_neg (fun z => absurd z.2.1 (by decide)), gI_putI, if_pos ⟨rfl, rfl, rfl⟩]
    · rw [gI_putI, if_neg (fun z => absurd z.2.1 (by decide)), gI_putI, if_pos ⟨rfl, rfl, rfl⟩]
  have b01' : ∀ f, 7 ≤ f → f ≤ 9 → (nI (v f) = 0 ∨ nI (v f) = 1) := fun f a b => by
    have := hb f a b
    have e : v f = 0 ∨ v f = 1 := by omega
    rcases e with e | e
    · rw [e]; exact Or.inl rfl
    · rw [e]; exact Or.inr rfl
  clear hσ2
  refine sg_28_19 (d := 0) ?_
  rw [i2s 3 (by decide) (by decide), i2s 4 (by decide) (by decide), i2s 5 (by decide) (by decide), i2s 6 (by decide) (by decide), i2s 7 (by decide) (by decide), i2s 8 (by decide) (by decide), i2s 9 (by decide) (by decide)]
  refine ⟨ax_kd k2s, ax_kd k2, ax_kd k2s, ax_kd k2, ax_kd k2s, ax_kd k2, ax_kd k2s, ax_kd k2, ax_kd k2s, ⟨b01' 7 (by decide) (by decide), ax_kd k2⟩, ax_kd k2s, ⟨b01' 8 (by decide) (by decide), ax_kd k2⟩, ax_kd k2s, ⟨b01' 9 (by decide) (by decide), ax_kd k2⟩, rfl, ?_, z2, u2, k2, ?_, fun f a b => ?_⟩
  · exact ((((((F2.putI fun z => nz _ z).putI fun z => nz _ z).putI fun z => nz _ z).putI fun z => nz _ z).putI fun z => nz _ z).putI fun z => nz _ z).putI fun z => nz _ z
  · simp only [gI_putI]
    simp
    exact i20.1
  · have ef : f = 1 ∨ f = 2 ∨ f = 3 ∨ f = 4 ∨ f = 5 ∨ f = 6 ∨ f = 7 ∨ f = 8 ∨ f = 9 := by omega
    simp only [gI_putI]
    rcases ef with rfl | rfl | rfl | rfl | rfl | rfl | rfl | rfl | rfl <;> simp
    · exact i20.2.1
    · exact i20.2.2
/-- a new job -/
def jbOK (σ : SG) (p0 j g : Nat) : Prop := sgK σ g = (2, 7) ∧ sgR σ 2 0 g = p0 ∧ sgI σ 2 1 g = nI j ∧ sgI σ 2 2 g = 0 ∧ sgI σ 2 3 g = 0 ∧ sgI σ 2 4 g = 0 ∧ sgI σ 2 5 g = -1 ∧ sgI σ 2 6 g = 0
theorem jbOK_F {W : Nat → Nat → Nat → Prop} {p0 g : Nat} (h : jbOK σ p0 j g) (hF : ax_F W σ σ') (hz : g < sgZ σ) (n2 : ∀ i, ¬ W 2 i g) : jbOK σ' p0 j g := by
  obtain ⟨h1, h2, h3, h4, h5, h6, h7, h8⟩ := h
  refine ⟨by rw [hF.2.2.1 _ hz]; exact h1, ?_, ?_, ?_, ?_, ?_, ?_, ?_⟩
  · rw [(hF.2.2.2 2 0 _ hz (n2 0)).2.2]; exact h2
  · rw [(hF.2.2.2 2 1 _ hz (n2 1)).1]; exact h3
  · rw [(hF.2.2.2 2 2 _ hz (n2 2)).1]; exact h4
  · rw [(hF.2.2.2 2 3 _ hz (n2 3)).1]; exact h5
  · rw [(hF.2.2.2 2 4 _ hz (n2 4)).1]; exact h6
  · rw [(hF.2.2.2 2 5 _ hz (n2 5)).1]; exact h7
  · rw [(hF.2.2.2 2 6 _ hz (n2 6)).1]; exact h8
/-- the first t places of a part have their jobs -/
def jbI (σ : SG) (p0 p2 : Nat) (sl : Nat → Bool) (t : Nat) (σ1 : SG) (gj : Nat → Nat) : Prop := ax_F (fun k _ q => k = 24 ∧ q = p2) σ σ1 ∧ sgZ σ1 ≤ sgZ σ + t ∧ sgU σ1 ≤ sgU σ + 7 * t ∧ (∀ j, j < t → sl j = true → jbOK σ1 p0 j (gj j) ∧ sgZ σ ≤ gj j ∧ sgR σ1 24 j p2 = gj j) ∧ (∀ j, gj j < sgZ σ1) ∧ ∀ j, j < 16 → (t ≤ j ∨ sl j = false) → sgR σ1 24 j p2 = 0
theorem ct_11 {p0 p1 p2 a b n : Nat} (k0 : sgK σ p0 = (3, 3)) (r1 : sgR σ 3 1 p0 = p1) (r2 : sgR σ 3 2 p0 = p2) (k1 : sgK σ p1 = (5, 10)) (k2 : sgK σ p2 = (24, 16)) (z0 : p0 < sgZ σ) (z1 : p1 < sgZ σ) (z2 : p2 < sgZ σ) (i1 : sgI σ 5 1 p1 = nI a) (i2 : sgI σ 5 2 p1 = nI b) (i3 : sgI σ 5 3 p1 = nI n) (hn : n < 2 ^ 31) (hab : a * b < 32) (hzero : ∀ j, j < 16 → sgR σ 24 j p2 = 0) : ax_ok e0 mo 1 11 [aR p0] σ (fun w σ2 => w = aU ∧ ∃ gj, jbI σ p0 p2 (fun j => Nat.blt j (a * b) && !(mBit n j)) 16 σ2 gj) := by
  generalize hsl : (fun j => Nat.blt j (a * b) && !(mBit n j)) = sl
  have hsl' : ∀ j, sl j = (Nat.blt j (a * b) && !(mBit n j)) := fun j => by rw [← hsl]
  have no24 : ∀ k' i q : Nat, k' ≠ 24 → ¬ (k' = 24 ∧ q = p2) := fun k' i q a z => a z.1
  refine sg_11_0 (d := 0) ?_
  refine ax_down (N := 16) (fun t => ∀ (σ1 : SG) (gj : Nat → Nat), jbI σ p0 p2 sl t σ1 gj → ax_wp e0 mo 1 11 (2, [aR p0, aI (nI t)], []) σ1 _) ?_ (fun t ht ih => ?_) 0 (Nat.zero_le _) σ (fun _ => 0) ⟨ax_F.refl _ _, Nat.le_refl _, Nat.le_refl _, fun j hj => absurd hj (Nat.not_lt_zero j), fun _ => Nat.lt_of_le_of_lt (Nat.zero_le _) z0, fun j hj _ => hzero j hj⟩
  · intro σ1 gj g
    have g1 := g.1
    have k0' : sgK σ1 p0 = (3, 3) := by rw [g1.2.2.1 _ z0]; exact k0
    have k2' : sgK σ1 p2 = (24, 16) := by rw [g1.2.2.1 _ z2]; exact k2
    have r2' : sgR σ1 3 2 p0 = p2 := by rw [(g1.2.2.2 3 2 _ z0 (no24 _ 0 _ (by decide))).2.2]; exact r2
    refine sg_11_2 (d := 0) ⟨ax_kd k0', ?_⟩
    rw [r2', k2']
    exact ⟨⟨by decide, by decide⟩, fun q => absurd q (by decide), fun _ => ⟨rfl, gj, g⟩⟩
  · intro σ1 gj ⟨g1, g2, g3, g4, g5, g6⟩
    have k0' : sgK σ1 p0 = (3, 3) := by rw [g1.2.2.1 _ z0]; exact k0
    have k1' : sgK σ1 p1 = (5, 10) := by rw [g1.2.2.1 _ z1]; exact k1
    have k2' : sgK σ1 p2 = (24, 16) := by rw [g1.2.2.1 _ z2]; exact k2
    have r1' : sgR σ1 3 1 p0 = p1 := by rw [(g1.2.2.2 3 1 _ z0 (no24 _ 0 _ (by decide))).2.2]; exact r1
    have r2' : sgR σ1 3 2 p0 = p2 := by rw [(g1.2.2.2 3 2 _ z0 (no24 _ 0 _ (by decide))).2.2]; exact r2
    have j1 : sgI σ1 5 1 p1 = nI a := by rw [(g1.2.2.2 5 1 _ z1 (no24 _ 0 _ (by decide))).1]; exact i1
    have j2 : sgI σ1 5 2 p1 = nI b := by rw [(g1.2.2.2 5 2 _ z1 (no24 _ 0 _ (by decide))).1]; exact i2
    have j3 : sgI σ1 5 3 p1 = nI n := by rw [(g1.2.2.2 5 3 _ z1 (no24 _ 0 _ (by decide))).1]; exact i3
    have ct : (nI t).toNatClampNeg = t := nI_clamp (by omega)
    refine sg_11_2 (d := 0) ⟨ax_kd k0', ?_⟩
    rw [r2', k2']
    refine ⟨⟨by decide, by decide⟩, fun _ => ⟨ax_kd k0', ?_⟩, fun q => absurd (nI_lt (b := 16) ht (by decide)) q⟩
    rw [r1']
    refine ⟨ax_kd k1', ax_use0 (ct_29 k1' j1 j2 j3 hn hab (by omega)) rfl ?_⟩
    rw [← hsl' t]
    refine sg_11_19 (d := 0) ⟨fun q => ?_, fun q => ⟨ax_kd k0', by have := g1.1; omega, ?_⟩⟩
    · have sf := bI0 q
      rw [nI_1]
      refine ih σ1 gj ⟨g1, by omega, by omega, fun j hj hs => ?_, g5, fun j hj hs => ?_⟩
      · rcases Nat.lt_succ_iff_lt_or_eq.mp hj with c | c
        · exact g4 j c hs
        · rw [c, sf] at hs; cases hs
      · by_cases c : j = t
        · exact g6 j hj (Or.inl (by omega))
        · refine g6 j hj ?_
          rcases hs with d | d
          · exact Or.inl (by omega)
          · exact Or.inr d
    · have st := bI1 q
      have kN : sgK (mkC σ1 2 7) (sgZ σ1) = (2, 7) := by rw [gK_mk, if_pos rfl]
      have hz0 : 0 < sgZ σ1 := by have := g1.1; omega
      have c6 : ax_ok e0 mo 0 6 [aR (sgZ σ1), aR p0, aI (nI t)] (mkC σ1 2 7) (fun w σ2 => w = aU ∧ σ2 = putI (putI (putI (putR (mkC σ1 2 7) 2 0 (sgZ σ1) p0) 2 1 (sgZ σ1) (nI t)) 2 2 (sgZ σ1) 0) 2 5 (sgZ σ1) (-1)) := sg_6_0 ⟨⟨by show (0 : Nat) ≤ 8; decide, hz0⟩, ax_kd kN, ax_kd kN, ax_kd kN, ax_kd kN, rfl, rfl⟩
      rw [r2']
      refine ax_use c6 rfl fun w σ2 hw => ?_
      obtain ⟨rfl, hσ2⟩ := hw
      have nz : ∀ P : Prop, sgZ σ1 < sgZ σ1 → P := fun P z => absurd z (Nat.lt_irrefl _)
      have F2 : ax_F (fun _ _ _ => False) σ1 σ2 := by
        rw [hσ2]
        exact (((((ax_F.refl _ _).mkC).putR fun z => nz _ z).putI fun z => nz _ z).putI fun z => nz _ z).putI fun z => nz _ z
      have zz2 : sgZ σ2 = sgZ σ1 + 1 := by rw [hσ2]; rfl
      have uu2 : sgU σ2 = sgU σ1 + 7 := by rw [hσ2]; rfl
      have ok : jbOK σ2 p0 t (sgZ σ1) := by
        rw [hσ2]
        refine ⟨kN, ?_, ?_, ?_, ?_, ?_, ?_, ?_⟩
        · rw [gR_putI, gR_putI, gR_putI, gR_putR, if_pos ⟨rfl, rfl, rfl⟩]
        all_goals
          simp only [gI_putI, gI_putR, gI_mk]
          simp
      have k2'' : sgK σ2 p2 = (24, 16) := by rw [F2.2.2.1 _ (Nat.lt_of_lt_of_le z2 g1.1)]; exact k2'
      clear hσ2
      refine sg_11_36 (d := 0) ⟨⟨Or.inr (Or.inr (ax_kd ok.1)), ax_in_nI k2'' ht (by decide)⟩, ?_⟩
      rw [ct, nI_1]
      have F3 : ax_F (fun k _ q => k = 24 ∧ q = p2) σ1 (putR σ2 24 t p2 (sgZ σ1)) := (F2.mono fun _ _ _ _ z => z.elim).putR fun _ => ⟨rfl, rfl⟩
      refine ih _ (fun i => if i = t then sgZ σ1 else gj i) ⟨g1.trans F3, ?_, ?_, fun j hj hs => ?_, fun j => ?_, fun j hj hs => ?_⟩
      · show sgZ σ2 ≤ _; omega
      · show sgU σ2 ≤ _; omega
      · show jbOK _ p0 j (if j = t then sgZ σ1 else gj j) ∧ sgZ σ ≤ (if j = t then sgZ σ1 else gj j) ∧ sgR (putR σ2 24 t p2 (sgZ σ1)) 24 j p2 = (if j = t then sgZ σ1 else gj j)
        by_cases c : j = t
        · rw [if_pos c, c]
          refine ⟨ok, g1.1, ?_⟩
          rw [gR_putR, if_pos ⟨rfl, rfl, rfl⟩]
        · rw [if_neg c]
          obtain ⟨d1, d2, d3⟩ := g4 j (by omega) hs
          refine ⟨jbOK_F d1 F3 (g5 j) (fun i => no24 _ i _ (by decide)), d2, ?_⟩
          rw [gR_putR, if_neg (fun z => c z.2.1), (F2.2.2.2 24 j _ (Nat.lt_of_lt_of_le z2 g1.1) id).2.2]
          exact d3
      · show (if j = t then sgZ σ1 else gj j) < sgZ σ2
        have := g5 j
        split <;> omega
      · have c : j ≠ t := fun z => by
          rcases hs with d | d
          · omega
          · rw [z, st] at d; cases d
        rw [gR_putR, if_neg (fun z => c z.2.1), (F2.2.2.2 24 j _ (Nat.lt_of_lt_of_le z2 g1.1) id).2.2]
        refine g6 j hj ?_
        rcases hs with d | d
        · exact Or.inl (by omega)
        · exact Or.inr d
end
end AXRT
