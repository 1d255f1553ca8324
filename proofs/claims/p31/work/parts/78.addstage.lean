/-! The class: a stage is added. -/
section AXRS
/-- the layout with one stage more -/
def lSt (L : LY) (el cap k q : Nat) : LY := (fun i => if i = 6 then el else L.1 i, fun i => if i = 0 then cap else L.2.1 i, fun t r k' j => if t = 0 ∧ r = k then q else L.2.2.1 t r k' j, L.2.2.2)
theorem lSt_ne {L : LY} {el cap k q t r k' j : Nat} (h : t ≠ 0) : (lSt L el cap k q).2.2.1 t r k' j = L.2.2.1 t r k' j := if_neg fun z => h z.1
section
variable {e0 mo : Nat} {σ σ' σ1 : SG} {x : Nat} {L : LY} {A A' : MS} {r k j p w : Nat}
theorem rc_add (h : ax_rc e0 σ x L A) (hI : mB A) {a b el cap : Nat} (hF : ax_F (fun k' _ q => (k' = 8 ∧ q = lF L 0) ∨ (k' = 23 ∧ q = lF L 6)) σ σ') {q : Nat} (hq : sgZ σ ≤ q ∧ q < sgZ σ') (hl : ax_li σ' (lF L 0) el cap (mN A + 1) (fun i => if i = mN A then q else gS L i)) (hc : (el = lF L 6 ∧ cap = lC L 0) ∨ (sgZ σ ≤ el ∧ 0 < cap ∧ cap ≤ 2000)) (hs : sgK σ' q = (5, 10) ∧ sgI σ' 5 0 q = nI (mN A) ∧ ∀ f, 1 ≤ f → f ≤ 9 → sgI σ' 5 f q = nI (mS (mAddS A a b) f (mN A))) : ax_rc e0 σ' x (lSt L el cap (mN A) q) (mAddS A a b) := by
  obtain ⟨hb, hf, hx, hge⟩ := rc_hb h
  obtain ⟨hX, hL, hS, hU, hP, hJ, hWk, hE, hB⟩ := h
  obtain ⟨l1, l2, l3, l4, l5⟩ := hL
  obtain ⟨⟨B1, B2, B3, B4, B5⟩, B6, B7, B8, B9, B10, B11, B12⟩ := hB
  have hi10 : ∀ f r k j, 10 ≤ f → (mAddS A a b).1 f r k j = A.1 f r k j := fun f r k j c => (mUp_f _ (by omega) r k j).trans ((mUp_f _ (by omega) r k j).trans ((mUp_f _ (by omega) r k j).trans (mUp_f _ (by omega) r k j)))
  have eN : mN (mAddS A a b) = mN A + 1 := mUp_at _ 0 0 0 0 _
  have eS : ∀ f k', 1 ≤ f → k' ≠ mN A → mS (mAddS A a b) f k' = mS A f k' := fun f k' c d => (mUp_f _ (by omega) k' 0 0).trans ((mUp_ne _ (fun z => d z.1)).trans ((mUp_ne _ (fun z => d z.1)).trans (mUp_ne _ (fun z => d z.1))))
  have eS6 : ∀ k', mS (mAddS A a b) 6 k' = mS A 6 k' := fun k' => (mUp_f _ (by omega) k' 0 0).trans ((mUp_f _ (by omega) k' 0 0).trans ((mUp_f _ (by omega) k' 0 0).trans (mUp_f _ (by omega) k' 0 0)))
  have no : ∀ (k' i q : Nat), k' ≠ 8 → k' ≠ 23 → ¬ ((k' = 8 ∧ q = lF L 0) ∨ (k' = 23 ∧ q = lF L 6)) := fun k' i q a b z => by
    rcases z with z | z
    · exact a z.1
    · exact b z.1
  have n8 : ∀ i, (i = 1 ∨ i = 2 ∨ i = 5) → ¬ ((8 = 8 ∧ lF L i = lF L 0) ∨ (8 = 23 ∧ lF L i = lF L 6)) := fun i hi z => by
    rcases z with z | z
    · have := B6 i 0 (by omega) (by decide) z.2; omega
    · exact absurd z.1 (by decide)
  have n23 : ∀ i, (i = 1 ∨ i = 2 ∨ i = 3) → 0 < lC L i → ∀ t : Nat, ¬ ((23 = 8 ∧ lF L (6 + i) = lF L 0) ∨ (23 = 23 ∧ lF L (6 + i) = lF L 6)) := fun i hi hc t z => by
    rcases z with z | z
    · exact absurd z.1 (by decide)
    · have := B8 i 0 (by omega) (by decide) (by omega) z.2; omega
  have elZ : el < sgZ σ' := hl.2.2.2.2.2.2.2.1
  have fresh : sgZ σ ≤ el → ∀ q, q < sgZ σ → q ≠ el := fun a q b z => by omega
  have pU : rcU σ' L (mAddS A a b) := by
    refine rcU_F hU hF hb rfl (fun f r' c d => hi10 f r' 0 0 (by omega)) (fun r' hr' => ?_) (fun r' i _ _ => no _ i _ (by decide) (by decide)) (fun i q _ => no _ i q (by decide) (by decide))
    rw [(hF.2.2.2 4 4 _ (hb _ _ _ _) (no _ 4 _ (by decide) (by decide))).1, show mU (mAddS A a b) 11 r' = mU A 11 r' from hi10 11 r' 0 0 (by decide)]
    exact (hU r' hr').2.1
  have pP : rcP σ' L (mAddS A a b) := rcP_F hP hF hb rfl (fun _ => rfl) (fun f r' k' c d => hi10 (20 + f) r' k' 0 (by omega)) (fun _ _ _ _ _ => Iff.rfl) (fun r' k' i _ _ => no _ i _ (by decide) (by decide)) (fun r' k' i _ _ => no _ i _ (by decide) (by decide)) (fun r' k' i _ _ => no _ i _ (by decide) (by decide))
  have pJ : rcJ σ' L (mAddS A a b) := fun r' k' j' c d e f => rcJ1_F (A' := mAddS A a b) (hJ r' k' j' c d e f) hF hb (fun f hf => hi10 (40 + f) r' k' j' (by omega)) (fun i => no _ i _ (by decide) (by decide))
  refine ⟨rcX_F hX hF hx (hf 3 (by decide)) (hf 4 (by decide)) (fun i => no _ i _ (by decide) (by decide)) (fun i => no _ i _ (by decide) (by decide)), ⟨?_, li_G l2 hF ⟨n8 1 (by decide), n8 1 (by decide)⟩ (n23 1 (by decide)), li_G l3 hF ⟨n8 2 (by decide), n8 2 (by decide)⟩ (n23 2 (by decide)), li_G l4 hF ⟨n8 5 (by decide), n8 5 (by decide)⟩ (n23 3 (by decide)), fun r hr => li_F (l5 r hr) hF ⟨fun z => ?_, fun z => ?_⟩ (fun i z => ?_)⟩, fun k' hk' => ?_, pU, pP, pJ, rcW_F hWk hF (hf 3 (by decide)) (fun _ _ => rfl) (fun i => no _ i _ (by decide) (by decide)), fun i hi => ?_, ⟨Nat.lt_of_lt_of_le B1 hF.1, Nat.lt_of_lt_of_le B2 hF.1, fun i hi => ?_, fun t r' k' j' => ?_, fun i hi => Nat.lt_of_lt_of_le (B5 i hi) hF.1⟩, ?_, ?_, ?_, ?_, ?_, ?_, B12⟩
  · show ax_li σ' (lF L 0) el cap (mN (mAddS A a b)) (fun i => if (0 : Nat) = 0 ∧ i = mN A then q else L.2.2.1 0 i 0 0)
    rw [eN]
    refine li_f hl fun i hi => ?_
    by_cases z : i = mN A
    · rw [if_pos z, if_pos ⟨rfl, z⟩]
    · rw [if_neg z, if_neg (fun y => z y.2)]
  · rcases z with z | z
    · exact B7 r 0 hr (by decide) z.2
    · exact absurd z.1 (by decide)
  · rcases z with z | z
    · exact B7 r 0 hr (by decide) z.2
    · exact absurd z.1 (by decide)
  · rcases z with z | z
    · exact absurd z.1 (by decide)
    · exact B9 r 0 hr (by decide) z.2
  · rw [eN] at hk'
    show sgK σ' (if (0 : Nat) = 0 ∧ k' = mN A then q else L.2.2.1 0 k' 0 0) = (5, 10) ∧ sgI σ' 5 0 (if (0 : Nat) = 0 ∧ k' = mN A then q else L.2.2.1 0 k' 0 0) = nI k' ∧ ∀ f, 1 ≤ f → f ≤ 9 → sgI σ' 5 f (if (0 : Nat) = 0 ∧ k' = mN A then q else L.2.2.1 0 k' 0 0) = nI (mS (mAddS A a b) f k')
    by_cases z : k' = mN A
    · rw [if_pos ⟨rfl, z⟩, z]; exact hs
    · rw [if_neg (fun y => z y.2)]
      obtain ⟨c1, c2, c3⟩ := hS k' (by omega)
      refine ⟨by rw [hF.2.2.1 _ (hb _ _ _ _)]; exact c1, by rw [(hF.2.2.2 5 0 _ (hb _ _ _ _) (no _ 0 _ (by decide) (by decide))).1]; exact c2, fun f d1 d2 => ?_⟩
      rw [(hF.2.2.2 5 f _ (hb _ _ _ _) (no _ f _ (by decide) (by decide))).1, eS f k' d1 z]
      exact c3 f d1 d2
  · show rcE1 σ' (gE L i) ((mE A).getD i (0, 0)) (mS (mAddS A a b) 6 ((mE A).getD i (0, 0)).1)
    rw [eS6]
    exact rcE1_F (hE i hi) hF (hge i hi) (fun i => no _ i _ (by decide) (by decide)) (fun i q _ => no _ i q (by decide) (by decide))
  · show (if i = 6 then el else L.1 i) < _
    split
    · exact elZ
    · exact Nat.lt_of_lt_of_le (B3 i hi) hF.1
  · show (if t = 0 ∧ r' = mN A then q else L.2.2.1 t r' k' j') < _
    split
    · exact hq.2
    · exact Nat.lt_of_lt_of_le (B4 t r' k' j') hF.1
  · intro i j hi hj
    show (if i = 6 then el else L.1 i) = (if j = 6 then el else L.1 j) → _
    rw [if_neg (by omega), if_neg (by omega)]
    exact B6 i j hi hj
  · intro r i hr hi
    show gU L 2 r ≠ (if i = 6 then el else L.1 i)
    rw [if_neg (by omega)]
    exact B7 r i hr hi
  · intro i j hi hj
    show (if i = 0 then cap else L.2.1 i) ≠ 0 → (if 6 + i = 6 then el else L.1 (6 + i)) = (if 6 + j = 6 then el else L.1 (6 + j)) → _
    by_cases zi : i = 0
    · by_cases zj : j = 0
      · intro _ _; rw [zi, zj]
      · rw [if_pos zi, if_pos (by omega), if_neg (by omega)]
        intro hc0 e
        rcases hc with ⟨c1, c2⟩ | ⟨c1, c2, c3⟩
        · have := B8 0 j (by decide) hj (by rw [← c2]; exact hc0) (by rw [← c1]; exact e)
          omega
        · have := B3 (6 + j) (by omega)
          exact absurd e.symm (fresh c1 _ this)
    · by_cases zj : j = 0
      · rw [if_neg zi, if_neg (by omega), if_pos (by omega)]
        intro hc0 e
        rcases hc with ⟨c1, c2⟩ | ⟨c1, c2, c3⟩
        · have := B8 i 0 hi (by decide) hc0 (by rw [← c1]; exact e)
          omega
        · have := B3 (6 + i) (by omega)
          exact absurd e (fresh c1 _ this)
      · rw [if_neg zi, if_neg (by omega), if_neg (by omega)]
        exact B8 i j hi hj
  · intro r i hr hi
    show gU L 3 r ≠ (if 6 + i = 6 then el else L.1 (6 + i))
    split
    · rcases hc with ⟨c1, c2⟩ | ⟨c1, c2, c3⟩
      · rw [c1]; exact B9 r 0 hr (by decide)
      · exact fresh c1 _ (hb _ _ _ _)
    · exact B9 r i hr hi
  · intro i hi
    show (if i = 0 then cap else L.2.1 i) ≤ 2000 ∧ ((if i = 0 then cap else L.2.1 i) = 0 → (if 6 + i = 6 then el else L.1 (6 + i)) = e0)
    by_cases zi : i = 0
    · rw [if_pos zi, if_pos (by omega)]
      rcases hc with ⟨c1, c2⟩ | ⟨c1, c2, c3⟩
      · rw [c1, c2]; exact B10 0 (by decide)
      · exact ⟨c3, fun z => by omega⟩
    · rw [if_neg zi, if_neg (by omega)]
      exact B10 i hi
  · intro r k k' hr hk hk'
    rw [eN] at hk'
    show gP L 1 r k ≠ (if (0 : Nat) = 0 ∧ k' = mN A then q else L.2.2.1 0 k' 0 0)
    by_cases z : k' = mN A
    · rw [if_pos ⟨rfl, z⟩]
      have := hb 11 r k 0
      show L.2.2.1 11 r k 0 ≠ q
      omega
    · rw [if_neg (fun y => z y.2)]
      exact B11 r k k' hr hk (by omega)
theorem in14_ck {y : Int32} (a : ¬ y < 1) (b : ¬ (4 : Int32) < y) : in14 y = true := decide_eq_true ⟨Int32.not_lt.mp a, Int32.not_lt.mp b⟩
theorem ct_33 (h : ax_rc e0 σ x L A) (hJJ : mJJ A) (u v : Int32) : ax_wp e0 mo 7 33 (0, ax_entry 33 [aR x, aI u, aI v], []) σ (cl_po e0 σ x L [1, 2] (oAddStage A u v)) := by
  obtain ⟨f0, f1, f2, f3, f4, f5, f6, f7, f8⟩ := xf h
  obtain ⟨hb, hf, hx, hge⟩ := rc_hb h
  have hI := hJJ.1.1
  have hN := hI.1.1
  have li := h.2.1.1
  unfold oAddStage
  have no : ∀ o : OC, o = ((1, 0), A) → cl_po e0 σ x L [1, 2] o (.inr 1) (thrC σ) := fun o e => by
    subst e; exact ⟨Nat.le_refl 1, rfl, rfl⟩
  refine sg_33_0 (d := 6) ⟨fun y1 => ⟨by decide, no _ ?_⟩, fun y1 => ⟨fun y2 => ⟨by decide, no _ ?_⟩, fun y2 => ⟨fun y3 => ⟨by decide, no _ ?_⟩, fun y3 => ⟨fun y4 => ⟨by decide, no _ ?_⟩, fun y4 => ⟨ax_kd f0, ?_⟩⟩⟩⟩⟩
  · rw [show in14 u = false from decide_eq_false (fun q => absurd y1 (Int32.not_lt.mpr q.1))]; rfl
  · rw [show in14 u = false from decide_eq_false (fun q => absurd y2 (Int32.not_lt.mpr q.2))]; rfl
  · rw [show in14 v = false from decide_eq_false (fun q => absurd y3 (Int32.not_lt.mpr q.1)), Bool.and_false]; rfl
  · rw [show in14 v = false from decide_eq_false (fun q => absurd y4 (Int32.not_lt.mpr q.2)), Bool.and_false]; rfl
  have e2 := in14_ck y1 y2
  have e3 := in14_ck y3 y4
  rw [e2, e3]
  obtain ⟨a, ha1, ha, rfl⟩ := in14_yes e2
  obtain ⟨b, hb1, hb4, rfl⟩ := in14_yes e3
  have ca : (nI a).toNatClampNeg = a := nI_clamp (by omega)
  have cb : (nI b).toNatClampNeg = b := nI_clamp (by omega)
  rw [ca, cb]
  refine ck_use (ct_69 h hI) rfl (fun q e4 hq => ?_) (fun e => ?_)
  · subst hq
    rw [e4]
    refine sg_33_34 (d := 6) ⟨ax_kd f0, ?_⟩
    rw [f1]
    refine ⟨ax_kd li.1, ax_use0 (ct_157 li) rfl ?_⟩
    refine sg_33_41 (d := 6) (pk_lt (mN A) 8 (fun y => ?_) (fun y => ⟨by decide, ?_⟩))
    · rw [Nat.blt_eq.mpr y]
      have kx : sgK (mkC σ 5 10) x = (6, 5) := by rw [gK_mk, if_neg (Nat.ne_of_lt hx)]; exact f0
      have x1 : sgR (mkC σ 5 10) 6 0 x = lF L 0 := by rw [gR_mk, if_neg (fun z => absurd z.1 (by decide))]; exact f1
      have lim : ax_li (mkC σ 5 10) (lF L 0) (lF L 6) (lC L 0) (mN A) (gS L) := li_F li (W := fun _ _ _ => False) ((ax_F.refl _ _).mkC) ⟨id, id⟩ (fun _ => id)
      rw [x1]
      refine ⟨ax_kd kx, ax_kd lim.1, ax_use0 (ct_157 lim) rfl ?_⟩
      have kz : sgK (mkC σ 5 10) (sgZ σ) = (5, 10) := by rw [gK_mk, if_pos rfl]
      refine sg_33_67 (d := 6) ⟨by omega, ?_⟩
      have c27 : ax_ok e0 mo 0 27 [aR (sgZ σ), aI (nI (mN A)), aI (nI a), aI (nI b)] (mkC σ 5 10) (fun w σ2 => w = aU ∧ σ2 = putI (putI (putI (putI (mkC σ 5 10) 5 0 (sgZ σ) (nI (mN A))) 5 1 (sgZ σ) (nI a)) 5 2 (sgZ σ) (nI b)) 5 9 (sgZ σ) 1) := sg_27_0 ⟨⟨by show (0 : Nat) ≤ 8; decide, by omega⟩, ax_kd kz, ax_kd kz, ax_kd kz, ⟨Or.inr rfl, ax_kd kz⟩, rfl, rfl⟩
      refine ax_use c27 rfl fun w σ2 hw => ?_
      obtain ⟨rfl, hσ2⟩ := hw
      have nz : ∀ P : Prop, sgZ σ < sgZ σ → P := fun P z => absurd z (Nat.lt_irrefl _)
      have F2 : ax_F (fun _ _ _ => False) σ σ2 := by
        rw [hσ2]
        exact (((((ax_F.refl _ _).mkC).putI fun z => nz _ z).putI fun z => nz _ z).putI fun z => nz _ z).putI fun z => nz _ z
      have z2 : sgZ σ2 = sgZ σ + 1 := by rw [hσ2]; rfl
      have u2 : sgU σ2 = sgU σ + 10 := by rw [hσ2]; rfl
      have k2 : sgK σ2 (sgZ σ) = (5, 10) := by rw [hσ2]; exact kz
      have i2 : sgI σ2 5 0 (sgZ σ) = nI (mN A) ∧ ∀ f, 1 ≤ f → f ≤ 9 → sgI σ2 5 f (sgZ σ) = nI (mS (mAddS A a b) f (mN A)) := by
        rw [hσ2]
        refine ⟨?_, fun f c1 c2 => ?_⟩
        · rw [gI_putI, if_neg (fun z => absurd z.2.1 (by decide)), gI_putI, if_neg (fun z => absurd z.2.1 (by decide)), gI_putI, if_neg (fun z => absurd z.2.1 (by decide)), gI_putI, if_pos ⟨rfl, rfl, rfl⟩]
        · have h0 := hI.2.2.2.1 (mN A) f (Nat.le_refl _) c1 c2
          rw [show mS (mAddS A a b) f (mN A) = mS (mUp (mUp (mUp A 1 (mN A) 0 0 a) 2 (mN A) 0 0 b) 9 (mN A) 0 0 1) f (mN A) from mUp_f _ (by omega) (mN A) 0 0, mS_up, mS_up, mS_up, gI_putI, gI_putI, gI_putI, gI_putI, gI_mk]
          have ef : f = 1 ∨ f = 2 ∨ f = 9 ∨ (f ≠ 1 ∧ f ≠ 2 ∧ f ≠ 9) := by omega
          rcases ef with rfl | rfl | rfl | ⟨n1, n2, n9⟩
          · simp
          · simp
          · simp; rfl
          · rw [if_neg (fun z => n9 z.2.1), if_neg (fun z => n2 z.2.1), if_neg (fun z => n1 z.2.1), if_neg (show ¬ ((5 : Nat) = 5 ∧ f = 0 ∧ sgZ σ = sgZ σ) from fun z => by omega), if_pos ⟨rfl, rfl⟩, if_neg (fun z => n9 z.1), if_neg (fun z => n2 z.1), if_neg (fun z => n1 z.1), h0]
            rfl
      have l2 : ax_li σ2 (lF L 0) (lF L 6) (lC L 0) (mN A) (gS L) := li_F li F2 ⟨id, id⟩ (fun _ => id)
      have kx2 : sgK σ2 x = (6, 5) := by rw [F2.2.2.1 _ hx]; exact f0
      have x2 : sgR σ2 6 0 x = lF L 0 := by rw [(F2.2.2.2 6 0 x hx id).2.2]; exact f1
      refine sg_33_72 (d := 6) ⟨ax_kd kx2, ?_⟩
      rw [x2]
      have hc := h.2.2.2.2.2.2.2.2.2.2.2.2.2.1 0 (by decide)
      have hc1 : lC L 0 ≤ 2000 := hc.1
      refine ⟨ax_kd l2.1, ax_use (ct_163 l2 hc.2 (by omega) (fun i hi => ?_) (by rw [k2]; show (5 : Nat) < 9; decide) (by omega)) rfl fun w σ3 hw => ?_⟩
      · have := hb 0 i 0 0
        refine ⟨Nat.lt_of_lt_of_le this F2.1, ?_⟩
        rw [F2.2.2.1 _ this, (h.2.2.1 i hi).1]
        show (5 : Nat) < 9
        decide
      · obtain ⟨rfl, el', cap', d1, d2, d3⟩ := hw
        have hcap := ax_cap_le (lC L 0)
        have hpot := ax_cap_pot (lC L 0)
        have hcl := ax_cap_lt (lC L 0)
        have zlt : sgZ σ < sgZ σ2 := by omega
        have n5 : ∀ i : Nat, ¬ (((5 : Nat) = 8 ∧ sgZ σ = lF L 0) ∨ ((5 : Nat) = 23 ∧ sgZ σ = lF L 6)) := fun i z => by rcases z with z | z <;> exact absurd z.1 (by decide)
        have F3 : ax_F (fun k' _ q => (k' = 8 ∧ q = lF L 0) ∨ (k' = 23 ∧ q = lF L 6)) σ σ3 := (F2.mono fun _ _ _ _ z => z.elim).trans d2
        have k3 : sgK σ3 (sgZ σ) = (5, 10) := by rw [d2.2.2.1 _ zlt]; exact k2
        have i3 : sgI σ3 5 0 (sgZ σ) = nI (mN A) := by rw [(d2.2.2.2 5 0 _ zlt (n5 0)).1]; exact i2.1
        refine sg_33_81 (d := 6) ⟨ax_kd k3, ?_⟩
        rw [i3]
        refine ⟨rfl, rfl, lSt L el' cap' (mN A) (sgZ σ), rc_add h hI F3 ⟨Nat.le_refl _, Nat.lt_of_lt_of_le zlt d2.1⟩ d1 ?_ ⟨k3, i3, fun f c1 c2 => by rw [(d2.2.2.2 5 f _ zlt (n5 0)).1]; exact i2.2 f c1 c2⟩, F3.mono fun k i q _ z => ?_, ?_, ?_⟩
        · rcases d3 with ⟨c1, c2, c3, c4⟩ | ⟨c1, c2, c3, c4, c5⟩
          · exact Or.inl ⟨c1, c2⟩
          · exact Or.inr ⟨by omega, by omega, by omega⟩
        · rcases z with z | z
          · rw [z.1]; exact ⟨by decide, by decide, by decide, by decide, by decide⟩
          · rw [z.1]; exact ⟨by decide, by decide, by decide, by decide, by decide⟩
        · show sgZ σ3 + (lC L 0 + lC L 1 + lC L 2 + lC L 3) ≤ sgZ σ + (cap' + lC L 1 + lC L 2 + lC L 3) + 390
          rcases d3 with ⟨c1, c2, c3, c4⟩ | ⟨c1, c2, c3, c4, c5⟩ <;> omega
        · show sgU σ3 + 4 * (lC L 0 + lC L 1 + lC L 2 + lC L 3) ≤ sgU σ + 4 * (cap' + lC L 1 + lC L 2 + lC L 3) + 6000
          rcases d3 with ⟨c1, c2, c3, c4⟩ | ⟨c1, c2, c3, c4, c5⟩ <;> omega
    · rw [not_true_b (b := Nat.blt (mN A) 8) (fun z => by have := Nat.blt_eq.mp z; omega), Bool.and_false]
      exact ⟨Nat.le_succ 1, rfl, rfl⟩
  · rw [e]
    exact ⟨Nat.le_succ 1, rfl, rfl⟩
end
end AXRS
