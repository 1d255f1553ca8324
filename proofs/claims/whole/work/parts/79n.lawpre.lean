/-! The law's loop: what holds at its head. -/
section AXLW
/-- at the loop's head after n calls; B, U: what was there at the start -/
def lw (e0 scr x m ou len : Nat) (M : Nat → Nat) (B U n : Nat) (σ : SG) (L : LY) (A : MS) : Prop := lwA A n ∧ ax_rm σ m M A ∧ ax_rc e0 σ x L A ∧ (sgK σ ou = (22, 1) ∧ sgK σ e0 = (23, 0) ∧ sgK σ scr = (25, len)) ∧ (m < sgZ σ ∧ (∀ i, ax_mr i → M i < sgZ σ) ∧ ou < sgZ σ ∧ scr < sgZ σ ∧ e0 < sgZ σ) ∧ (∀ i, ax_mr i → M i ≠ ou) ∧ sgZ σ ≤ B + lRho L + 390 * n ∧ sgU σ ≤ U + 4 * lRho L + 6000 * n
section
variable {e0 mo scr x m ou len : Nat} {M : Nat → Nat} {B U n : Nat} {σ σ2 σ3 : SG} {L L' : LY} {A : MS} {o : OC} {w v : AV} {vl : Int32 → Int64}
/-- after the class's call -/
theorem lw_mid (h : lw e0 scr x m ou len M B U n σ L A) (hF : ax_F (fun k i q => cW k i q ∨ (k = 22 ∧ q = ou)) σ σ2) : ax_rm σ2 m M A ∧ sgK σ2 ou = (22, 1) ∧ sgK σ2 e0 = (23, 0) ∧ sgK σ2 scr = (25, len) ∧ sgK σ2 m = (7, 24) ∧ ∀ i, sgI σ2 25 i scr = sgI σ 25 i scr := by
  obtain ⟨h1, h2, h3, ⟨k1, k2, k3⟩, ⟨z1, z2, z3, z4, z5⟩, ne, -, -⟩ := h
  have r := rm_F h2 hF z1 z2 (fun i z => by
    rcases z with z | z
    · exact z.1 rfl
    · exact absurd z.1 (by decide)) (fun k i j a b z => by
    rcases z with z | z
    · obtain ⟨y1, y2, y3, y4, y5⟩ := z
      rcases a with a | a | a
      · exact y2 a
      · exact y3 a
      · exact y4 a
    · exact ne j b z.2)
  refine ⟨r, by rw [hF.2.2.1 _ z3]; exact k1, by rw [hF.2.2.1 _ z5]; exact k2, by rw [hF.2.2.1 _ z4]; exact k3, r.1.1, fun i => (hF.2.2.2 25 i _ z4 (fun z => ?_)).1⟩
  rcases z with z | z
  · exact z.2.2.2.2 rfl
  · exact absurd z.1 (by decide)
/-- after the reference's call -/
theorem lw_end (h : lw e0 scr x m ou len M B U n σ L A) (hF : ax_F (fun k i q => cW k i q ∨ (k = 22 ∧ q = ou)) σ σ2) (h2 : ax_rc e0 σ2 x L' o.2) (hz : sgZ σ2 + lRho L ≤ sgZ σ + lRho L' + 390) (hu : sgU σ2 + 4 * lRho L ≤ sgU σ + 4 * lRho L' + 6000) (hm : ax_rm σ3 m M o.2) (hf : rf_w m M σ2 σ3) (hA : lwA o.2 (n + 1)) : lw e0 scr x m ou len M B U (n + 1) σ3 L' o.2 ∧ sgJ σ3 22 0 ou = sgJ σ2 22 0 ou ∧ sgK σ3 m = (7, 24) ∧ ax_in σ3 22 ou 0 := by
  obtain ⟨r, k1, k2, k3, k4, -⟩ := lw_mid h hF
  obtain ⟨-, -, -, -, ⟨z1, z2, z3, z4, z5⟩, ne, b1, b2⟩ := h
  obtain ⟨f1, f2, f3, f4, f5⟩ := hf
  have zz := hF.1
  have k1' : sgK σ3 ou = (22, 1) := by rw [f4]; exact k1
  refine ⟨⟨hA, hm, rc_F h2 f1 (fun k i q z => ?_), ⟨k1', by rw [f4]; exact k2, by rw [f4]; exact k3⟩, ⟨by omega, fun i hi => by have := z2 i hi; omega, by omega, by omega, by omega⟩, ne, by omega, by omega⟩, (f1.2.2.2 22 0 ou (by omega) (fun z => ?_)).2.1, hm.1.1, ax_in_nI (i := 0) k1' (by decide) (by decide)⟩
  · rcases z with z | ⟨z, j, hj, e⟩
    · exact Or.inl z.1
    · rcases z with z | z | z
      · refine Or.inr (Or.inr (Or.inr (Or.inr ⟨z, ?_⟩)))
        rw [e, (r.1.2.1 j hj).2]
        obtain ⟨j1, j2, j3, j4⟩ := hj
        have ej : j = 1 ∨ j = 2 ∨ j = 3 ∨ j = 4 ∨ j = 5 ∨ j = 6 ∨ j = 7 ∨ j = 8 ∨ j = 9 ∨ j = 11 ∨ j = 12 ∨ j = 13 ∨ j = 14 ∨ j = 15 ∨ j = 16 ∨ j = 17 ∨ j = 18 ∨ j = 20 ∨ j = 21 := by omega
        rcases ej with rfl | rfl | rfl | rfl | rfl | rfl | rfl | rfl | rfl | rfl | rfl | rfl | rfl | rfl | rfl | rfl | rfl | rfl | rfl <;> decide
      · exact Or.inr (Or.inl z)
      · exact Or.inr (Or.inr (Or.inl z))
  · rcases z with z | ⟨-, j, hj, e⟩
    · exact absurd z.1 (by decide)
    · exact ne j hj e.symm
end
end AXLW
