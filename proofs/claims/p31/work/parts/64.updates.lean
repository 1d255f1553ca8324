/-! The class's heap when one thing is written. -/
section AXRE
section
variable {e0 mo : Nat} {σ σ' : SG} {x : Nat} {L : LY} {A A' : MS} {r k j p w : Nat} {W : Nat → Nat → Nat → Prop}
theorem li_G {a el cap n : Nat} {f : Nat → Nat} (h : ax_li σ a el cap n f) (hF : ax_F W σ σ') (h8 : ¬ W 8 1 a ∧ ¬ W 8 2 a) (h23 : 0 < cap → ∀ i, ¬ W 23 i el) : ax_li σ' a el cap n f := by
  rcases Nat.eq_zero_or_pos cap with z | z
  · obtain ⟨h1, h2, h3, h4, h5, h6, h7, h8', h9, h10⟩ := h
    exact ⟨by rw [hF.2.2.1 a h7]; exact h1, by rw [(hF.2.2.2 8 2 a h7 h8.2).1]; exact h2, by rw [(hF.2.2.2 8 1 a h7 h8.1).2.2]; exact h3, by rw [hF.2.2.1 el h8']; exact h4, h5, h6, Nat.lt_of_lt_of_le h7 hF.1, Nat.lt_of_lt_of_le h8' hF.1, fun i hi => by omega, fun i a1 a2 => by omega⟩
  · exact li_F h hF h8 (h23 z)
theorem rc_hb (h : ax_rc e0 σ x L A) : (∀ t r k j, L.2.2.1 t r k j < sgZ σ) ∧ (∀ i, i < 10 → lF L i < sgZ σ) ∧ x < sgZ σ ∧ (∀ i, i < (mE A).length → gE L i < sgZ σ) := ⟨h.2.2.2.2.2.2.2.2.1.2.2.2.1, h.2.2.2.2.2.2.2.2.1.2.2.1, h.2.2.2.2.2.2.2.2.1.1, h.2.2.2.2.2.2.2.2.1.2.2.2.2⟩
/-- a job is written -/
theorem rc_job (h : ax_rc e0 σ x L A) (hI : mB A) (hr : r < mR A) (hk : k < mU A 16 r) (hj : j < 16) (hs : mJ A 0 r k j ≠ 8) (hF : ax_F (fun k' _ q => k' = 2 ∧ q = gJ L r k j) σ σ') (hlo : ∀ f r k j, f < 40 ∨ 44 ≤ f → A'.1 f r k j = A.1 f r k j) (h2 : A'.2 = A.2) (hot : ∀ f r' k' j', f < 4 → ¬ (r' = r ∧ k' = k ∧ j' = j) → mJ A' f r' k' j' = mJ A f r' k' j') (hs' : mJ A' 0 r k j ≠ 8) (hj1 : rcJ1 σ' L A' r k j) : ax_rc e0 σ' x L A' := by
  obtain ⟨hb, hf, hx, hge⟩ := rc_hb h
  have hN := hI.1
  have h0 := h
  obtain ⟨hX, hL, hS, hU, hP, hJ, hWk, hE, hB⟩ := h
  have eR : mR A' = mR A := hlo 10 0 0 0 (by decide)
  have eN : mN A' = mN A := hlo 0 0 0 0 (by decide)
  have eU : ∀ f r, f < 40 → mU A' f r = mU A f r := fun f r a => hlo f r 0 0 (Or.inl a)
  have eQ : mQ A' = mQ A := congrArg Prod.fst h2
  have eE : mE A' = mE A := congrArg Prod.snd h2
  have no : ∀ (k' i q : Nat), k' ≠ 2 → ¬ (k' = 2 ∧ q = gJ L r k j) := fun k' i q a z => a z.1
  refine ⟨rcX_F hX hF hx (hf 3 (by decide)) (hf 4 (by decide)) (fun i => no _ i _ (by decide)) (fun i => no _ i _ (by decide)), rcL_F hL hF eR eN (fun r => eU 16 r (by decide)) eQ (by rw [eE]) (fun i q => no _ i q (by decide)) (fun i q => no _ i q (by decide)), ?_, rcU_F hU hF hb eR (fun f r a b => eU f r (by omega)) (fun r' hr' => ?_) (fun r' i _ _ => no _ i _ (by decide)) (fun i q _ => no _ i q (by decide)), rcP_F hP hF hb eR (fun r => eU 16 r (by decide)) (fun f r k a b => hlo (20 + f) r k 0 (Or.inl (by omega))) (fun r' k' j' hr' hj' => ?_) (fun r' k' i _ _ => no _ i _ (by decide)) (fun r' k' i _ _ => no _ i _ (by decide)) (fun r' k' i _ _ => no _ i _ (by decide)), fun r' k' j' a b c d => ?_, rcW_F hWk hF (hf 3 (by decide)) (fun w _ => hlo 50 w 0 0 (Or.inr (by decide))) (fun i => no _ i _ (by decide)), fun i hi => ?_, rcB_F hB hF.1 eR eN (fun r => eU 16 r (by decide)) (by rw [eE])⟩
  · intro k' hk'
    rw [eN] at hk'
    obtain ⟨a1, a2, a3⟩ := hS k' hk'
    refine ⟨by rw [hF.2.2.1 _ (hb _ _ _ _)]; exact a1, by rw [(hF.2.2.2 5 0 _ (hb _ _ _ _) (no _ 0 _ (by decide))).1]; exact a2, fun f b1 b2 => ?_⟩
    rw [(hF.2.2.2 5 f _ (hb _ _ _ _) (no _ f _ (by decide))).1, show mS A' f k' = mS A f k' from hlo f k' 0 0 (Or.inl (by omega))]
    exact a3 f b1 b2
  · rw [(hF.2.2.2 4 4 _ (hb _ _ _ _) (no _ 4 _ (by decide))).1, eU 11 r' (by decide)]
    exact (hU r' hr').2.1
  · by_cases z : r' = r ∧ k' = k ∧ j' = j
    · obtain ⟨rfl, rfl, rfl⟩ := z
      exact ⟨fun y => absurd y hs', fun y => absurd y hs⟩
    · rw [hot 0 r' k' j' (by decide) z]
  · rw [eR] at a
    rw [eU 16 r' (by decide)] at b
    by_cases z : r' = r ∧ k' = k ∧ j' = j
    · obtain ⟨rfl, rfl, rfl⟩ := z
      exact hj1
    · rw [hot 0 r' k' j' (by decide) z] at d
      have hk8 := mU16_le hI hr
      have hk8' := mU16_le hI a
      refine rcJ1_F (hJ r' k' j' a b c d) hF hb (fun f hf => hot f r' k' j' hf z) (fun i y => z ?_)
      exact gJ_inj h0 hN a b c d hr hk hj hs (by omega) (by omega) y.2
  · rw [eE] at hi
    rw [eE, show mS A' 6 ((mE A).getD i (0, 0)).1 = mS A 6 ((mE A).getD i (0, 0)).1 from hlo 6 _ 0 0 (Or.inl (by decide))]
    exact rcE1_F (hE i hi) hF (hge i hi) (fun i => no _ i _ (by decide)) (fun i q _ => no _ i q (by decide))
theorem gU_inj (h : ax_rc e0 σ x L A) (hI : mB A) {r r' : Nat} (hr : r < mR A) (hr' : r' < mR A) (e : gU L 0 r = gU L 0 r') : r = r' := by
  have hR := hI.1.2
  have u1 := (h.2.2.2.1 r hr).1.2.1
  rw [e, (h.2.2.2.1 r' hr').1.2.1] at u1
  exact ((nI_eq (by omega) (by omega)).mp u1).symm
/-- a run's state is written -/
theorem rc_run (h : ax_rc e0 σ x L A) (hI : mB A) (hr : r < mR A) {s : Nat} {v : Int32} (hv : v = nI s) : ax_rc e0 (putI σ 4 4 (gU L 0 r) v) x L (mEnd A r s) := by
  obtain ⟨hb, hf, hx, hge⟩ := rc_hb h
  have h0 := h
  obtain ⟨hX, hL, hS, hU, hP, hJ, hWk, hE, hB⟩ := h
  have hF : ax_F (fun k' i q => k' = 4 ∧ i = 4 ∧ q = gU L 0 r) σ (putI σ 4 4 (gU L 0 r) v) := (ax_F.refl _ _).putI fun _ => ⟨rfl, rfl, rfl⟩
  have no : ∀ (k' i q : Nat), k' ≠ 4 → ¬ (k' = 4 ∧ i = 4 ∧ q = gU L 0 r) := fun k' i q a z => a z.1
  refine ⟨rcX_F hX hF hx (hf 3 (by decide)) (hf 4 (by decide)) (fun i => no _ i _ (by decide)) (fun i => no _ i _ (by decide)), rcL_F hL hF rfl rfl (fun _ => rfl) rfl rfl (fun i q => no _ i q (by decide)) (fun i q => no _ i q (by decide)), ?_, rcU_F hU hF hb rfl (fun f r' a b => mUp_f A (by omega) r' 0 0) (fun r' hr' => ?_) (fun r' i _ hi z => hi z.2.1) (fun i q _ => no _ i q (by decide)), rcP_F hP hF hb rfl (fun _ => rfl) (fun f r k a b => mUp_f A (by omega) r k 0) (fun r' k' j' _ _ => Iff.rfl) (fun r' k' i _ _ => no _ i _ (by decide)) (fun r' k' i _ _ => no _ i _ (by decide)) (fun r' k' i _ _ => no _ i _ (by decide)), fun r' k' j' a b c d => rcJ1_F (hJ r' k' j' a b c d) hF hb (fun f hf => mUp_f A (by omega) r' k' j') (fun i => no _ i _ (by decide)), rcW_F hWk hF (hf 3 (by decide)) (fun w _ => rfl) (fun i => no _ i _ (by decide)), fun i hi => rcE1_F (hE i hi) hF (hge i hi) (fun i => no _ i _ (by decide)) (fun i q _ => no _ i q (by decide)), rcB_F hB hF.1 rfl rfl (fun _ => rfl) rfl⟩
  · intro k' hk'
    obtain ⟨a1, a2, a3⟩ := hS k' hk'
    refine ⟨a1, by rw [gI_putI, if_neg (fun z => absurd z.1 (by decide))]; exact a2, fun f b1 b2 => ?_⟩
    rw [gI_putI, if_neg (fun z => absurd z.1 (by decide)), show mS (mEnd A r s) f k' = mS A f k' from mUp_f A (by omega) k' 0 0]
    exact a3 f b1 b2
  · rw [gI_putI]
    by_cases q : r' = r
    · rw [if_pos ⟨rfl, rfl, by rw [q]⟩, q, hv, show mU (mEnd A r s) 11 r = s from mUp_at A 11 r 0 0 s]
    · rw [if_neg (fun z => q (gU_inj h0 hI hr' hr z.2.2)), show mU (mEnd A r s) 11 r' = mU A 11 r' from mUp_ne A (fun z => q z.1)]
      exact (hU r' hr').2.1
/-- the workers' row is written -/
theorem rc_wk (h : ax_rc e0 σ x L A) {v : Nat} (hA : ∀ f r k j, f ≠ 50 → A'.1 f r k j = A.1 f r k j) (h2 : A'.2 = A.2) (hw : ∀ u, u < 4 → (if u = w then v else sgR σ 24 u (lF L 3)) = if mW A' u = 0 then 0 else gJp L (mW A' u - 1)) : ax_rc e0 (putR σ 24 w (lF L 3) v) x L A' := by
  obtain ⟨hb, hf, hx, hge⟩ := rc_hb h
  obtain ⟨f0, f1, f2, f3, f4, f5, f6, f7, f8⟩ := xf h
  obtain ⟨hX, hL, hS, hU, hP, hJ, hWk, hE, hB⟩ := h
  have eQ : mQ A' = mQ A := congrArg Prod.fst h2
  have eE : mE A' = mE A := congrArg Prod.snd h2
  have eR : mR A' = mR A := hA 10 0 0 0 (by decide)
  have eN : mN A' = mN A := hA 0 0 0 0 (by decide)
  have hF : ax_F (fun k' i q => k' = 24 ∧ q = lF L 3) σ (putR σ 24 w (lF L 3) v) := (ax_F.refl _ _).putR fun _ => ⟨rfl, rfl⟩
  have no : ∀ (k' i q : Nat), k' ≠ 24 → ¬ (k' = 24 ∧ q = lF L 3) := fun k' i q a z => a z.1
  have ns : ∀ r k, r < mR A → k < mU A 16 r → gP L 2 r k ≠ lF L 3 := fun r k a b z => by
    have := (hP r k a b).2.2.1
    rw [z, f6] at this
    exact absurd this (by decide)
  refine ⟨rcX_F hX hF hx (hf 3 (by decide)) (hf 4 (by decide)) (fun i => no _ i _ (by decide)) (fun i => no _ i _ (by decide)), rcL_F hL hF eR eN (fun r => hA 16 r 0 0 (by decide)) eQ (by rw [eE]) (fun i q => no _ i q (by decide)) (fun i q => no _ i q (by decide)), ?_, rcU_F hU hF hb eR (fun f r' a b => hA f r' 0 0 (by omega)) (fun r' hr' => ?_) (fun r' i _ hi => no _ i _ (by decide)) (fun i q _ => no _ i q (by decide)), rcP_F hP hF hb eR (fun r => hA 16 r 0 0 (by decide)) (fun f r k a b => hA (20 + f) r k 0 (by omega)) (fun r' k' j' _ _ => by rw [show mJ A' 0 r' k' j' = mJ A 0 r' k' j' from hA 40 r' k' j' (by decide)]) (fun r' k' i _ _ => no _ i _ (by decide)) (fun r' k' i _ _ => no _ i _ (by decide)) (fun r' k' i a b z => ns r' k' a b z.2), fun r' k' j' a b c d => ?_, fun u hu => (hw u hu) ▸ ?_, fun i hi => ?_, rcB_F hB hF.1 eR eN (fun r => hA 16 r 0 0 (by decide)) (by rw [eE])⟩
  · intro k' hk'
    rw [eN] at hk'
    obtain ⟨a1, a2, a3⟩ := hS k' hk'
    refine ⟨a1, a2, fun f b1 b2 => ?_⟩
    rw [show mS A' f k' = mS A f k' from hA f k' 0 0 (by omega)]
    exact a3 f b1 b2
  · rw [show mU A' 11 r' = mU A 11 r' from hA 11 r' 0 0 (by decide)]
    exact (hU r' hr').2.1
  · rw [eR] at a
    rw [show mU A' 16 r' = mU A 16 r' from hA 16 r' 0 0 (by decide)] at b
    rw [show mJ A' 0 r' k' j' = mJ A 0 r' k' j' from hA 40 r' k' j' (by decide)] at d
    exact rcJ1_F (hJ r' k' j' a b c d) hF hb (fun f hf => hA (40 + f) r' k' j' (by omega)) (fun i => no _ i _ (by decide))
  · rw [gR_putR]
    by_cases z : u = w
    · rw [if_pos ⟨rfl, z, rfl⟩, if_pos z]
    · rw [if_neg (fun y => z y.2.1), if_neg z]
  · rw [eE] at hi
    rw [eE, show mS A' 6 ((mE A).getD i (0, 0)).1 = mS A 6 ((mE A).getD i (0, 0)).1 from hA 6 _ 0 0 (by decide)]
    exact rcE1_F (hE i hi) hF (hge i hi) (fun i => no _ i _ (by decide)) (fun i q _ => no _ i q (by decide))
/-- the layout with another row of the queue -/
def lQu (L : LY) (el cap : Nat) : LY := (fun i => if i = 8 then el else L.1 i, fun i => if i = 2 then cap else L.2.1 i, L.2.2)
/-- the queue is written -/
theorem rc_qu (h : ax_rc e0 σ x L A) {q' : List Nat} {el cap : Nat} (hF : ax_F (fun k i q => (k = 8 ∧ q = lF L 2) ∨ (k = 23 ∧ q = lF L 8)) σ σ') (hl : ax_li σ' (lF L 2) el cap q'.length (fun i => gJp L (q'.getD i 0))) (hc : (el = lF L 8 ∧ cap = lC L 2) ∨ (sgZ σ ≤ el ∧ 0 < cap ∧ cap ≤ 2000)) : ax_rc e0 σ' x (lQu L el cap) (A.1, q', mE A) := by
  obtain ⟨hb, hf, hx, hge⟩ := rc_hb h
  obtain ⟨hX, hL, hS, hU, hP, hJ, hWk, hE, hB⟩ := h
  have no : ∀ (k' i q : Nat), k' ≠ 8 → k' ≠ 23 → ¬ ((k' = 8 ∧ q = lF L 2) ∨ (k' = 23 ∧ q = lF L 8)) := fun k' i q a b z => by
    rcases z with z | z
    · exact a z.1
    · exact b z.1
  obtain ⟨l1, l2, l3, l4, l5⟩ := hL
  obtain ⟨⟨B1, B2, B3, B4, B5⟩, B6, B7, B8, B9, B10, B11⟩ := hB
  have n8 : ∀ i, (i = 0 ∨ i = 1 ∨ i = 5) → ∀ t : Nat, ¬ ((8 = 8 ∧ lF L i = lF L 2) ∨ (8 = 23 ∧ lF L i = lF L 8)) := fun i hi t z => by
    rcases z with z | z
    · have := B6 i 2 (by omega) (by decide) z.2; omega
    · exact absurd z.1 (by decide)
  have n23 : ∀ i, (i = 0 ∨ i = 1 ∨ i = 3) → 0 < lC L i → ∀ t : Nat, ¬ ((23 = 8 ∧ lF L (6 + i) = lF L 2) ∨ (23 = 23 ∧ lF L (6 + i) = lF L 8)) := fun i hi hc t z => by
    rcases z with z | z
    · exact absurd z.1 (by decide)
    · have := B8 i 2 (by omega) (by decide) (by omega) z.2; omega
  have elZ : el < sgZ σ' := hl.2.2.2.2.2.2.2.1
  have fresh : sgZ σ ≤ el → ∀ q, q < sgZ σ → q ≠ el := fun a q b z => by omega
  refine ⟨rcX_F hX hF hx (hf 3 (by decide)) (hf 4 (by decide)) (fun i => no _ i _ (by decide) (by decide)) (fun i => no _ i _ (by decide) (by decide)), ⟨li_G l1 hF ⟨n8 0 (by decide) 1, n8 0 (by decide) 2⟩ (n23 0 (by decide)), li_G l2 hF ⟨n8 1 (by decide) 1, n8 1 (by decide) 2⟩ (n23 1 (by decide)), hl, li_G l4 hF ⟨n8 5 (by decide) 1, n8 5 (by decide) 2⟩ (n23 3 (by decide)), fun r hr => li_F (l5 r hr) hF ⟨fun z => ?_, fun z => ?_⟩ (fun i z => ?_)⟩, rcS_F hS hF hb rfl (fun _ _ => rfl) (fun k i _ => no _ i _ (by decide) (by decide)), rcU_F hU hF hb rfl (fun _ _ _ _ => rfl) (fun r hr => ?_) (fun r i _ _ => no _ i _ (by decide) (by decide)) (fun i q _ => no _ i q (by decide) (by decide)), rcP_F hP hF hb rfl (fun _ => rfl) (fun _ _ _ _ _ => rfl) (fun _ _ _ _ _ => Iff.rfl) (fun r k i _ _ => no _ i _ (by decide) (by decide)) (fun r k i _ _ => no _ i _ (by decide) (by decide)) (fun r k i _ _ => no _ i _ (by decide) (by decide)), fun r k j a b c d => rcJ1_F (hJ r k j a b c d) hF hb (fun _ _ => rfl) (fun i => no _ i _ (by decide) (by decide)), rcW_F hWk hF (hf 3 (by decide)) (fun _ _ => rfl) (fun i => no _ i _ (by decide) (by decide)), fun i hi => rcE1_F (hE i hi) hF (hge i hi) (fun i => no _ i _ (by decide) (by decide)) (fun i q _ => no _ i q (by decide) (by decide)), ⟨Nat.lt_of_lt_of_le B1 hF.1, Nat.lt_of_lt_of_le B2 hF.1, fun i hi => ?_, fun t r k j => Nat.lt_of_lt_of_le (B4 t r k j) hF.1, fun i hi => Nat.lt_of_lt_of_le (B5 i hi) hF.1⟩, ?_, ?_, ?_, ?_, ?_, B11⟩
  · rcases z with z | z
    · exact B7 r 2 hr (by decide) z.2
    · exact absurd z.1 (by decide)
  · rcases z with z | z
    · exact B7 r 2 hr (by decide) z.2
    · exact absurd z.1 (by decide)
  · rcases z with z | z
    · exact absurd z.1 (by decide)
    · exact B9 r 2 hr (by decide) z.2
  · show sgI σ' 4 4 (gU L 0 r) = nI (mU A 11 r)
    rw [(hF.2.2.2 4 4 _ (hb _ _ _ _) (no _ 4 _ (by decide) (by decide))).1]
    exact (hU r hr).2.1
  · show (if i = 8 then el else L.1 i) < _
    split
    · exact elZ
    · exact Nat.lt_of_lt_of_le (B3 i hi) hF.1
  · intro i j hi hj
    show (if i = 8 then el else L.1 i) = (if j = 8 then el else L.1 j) → _
    rw [if_neg (by omega), if_neg (by omega)]
    exact B6 i j hi hj
  · intro r i hr hi
    show gU L 2 r ≠ (if i = 8 then el else L.1 i)
    rw [if_neg (by omega)]
    exact B7 r i hr hi
  · intro i j hi hj
    show (if i = 2 then cap else L.2.1 i) ≠ 0 → (if 6 + i = 8 then el else L.1 (6 + i)) = (if 6 + j = 8 then el else L.1 (6 + j)) → _
    by_cases zi : i = 2
    · by_cases zj : j = 2
      · intro _ _; rw [zi, zj]
      · rw [if_pos zi, if_pos (by omega), if_neg (by omega)]
        intro hc0 e
        rcases hc with ⟨c1, c2⟩ | ⟨c1, c2, c3⟩
        · have := B8 2 j (by decide) hj (by rw [← c2]; exact hc0) (by rw [← c1]; exact e)
          omega
        · have := B3 (6 + j) (by omega)
          exact absurd e.symm (fresh c1 _ this)
    · by_cases zj : j = 2
      · rw [if_neg zi, if_neg (by omega), if_pos (by omega)]
        intro hc0 e
        rcases hc with ⟨c1, c2⟩ | ⟨c1, c2, c3⟩
        · have := B8 i 2 hi (by decide) hc0 (by rw [← c1]; exact e)
          omega
        · have := B3 (6 + i) (by omega)
          exact absurd e (fresh c1 _ this)
      · rw [if_neg zi, if_neg (by omega), if_neg (by omega)]
        exact B8 i j hi hj
  · intro r i hr hi
    show gU L 3 r ≠ (if 6 + i = 8 then el else L.1 (6 + i))
    split
    · rcases hc with ⟨c1, c2⟩ | ⟨c1, c2, c3⟩
      · rw [c1]; exact B9 r 2 hr (by decide)
      · exact fresh c1 _ (hb _ _ _ _)
    · exact B9 r i hr hi
  · intro i hi
    show (if i = 2 then cap else L.2.1 i) ≤ 2000 ∧ ((if i = 2 then cap else L.2.1 i) = 0 → (if 6 + i = 8 then el else L.1 (6 + i)) = e0)
    by_cases zi : i = 2
    · rw [if_pos zi, if_pos (by omega)]
      rcases hc with ⟨c1, c2⟩ | ⟨c1, c2, c3⟩
      · rw [c1, c2]; exact B10 2 (by decide)
      · exact ⟨c3, fun z => by omega⟩
    · rw [if_neg zi, if_neg (by omega)]
      exact B10 i hi
end
end AXRE
