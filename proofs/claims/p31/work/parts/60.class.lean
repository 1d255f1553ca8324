/-! How the class's heap holds the state. Where its things lie, L: fixed places 0 list of stages, 1 list of runs, 2 queue, 3 row of workers, 4 cache, 5 list of entries, 6 to 9 the rows of stages, runs, queue, entries; the rows' lengths 0 to 3; stages (0), runs (1 run, 2 inputs, 3 list of parts, 4 its row), parts (10 part, 11 its stage, 12 its row of jobs), jobs (20); entries. -/
section AXRA
abbrev LY : Type := (Nat → Nat) × (Nat → Nat) × (Nat → Nat → Nat → Nat → Nat) × (Nat → Nat)
abbrev lF (L : LY) (i : Nat) : Nat := L.1 i
abbrev lC (L : LY) (i : Nat) : Nat := L.2.1 i
abbrev gS (L : LY) (k : Nat) : Nat := L.2.2.1 0 k 0 0
abbrev gU (L : LY) (t r : Nat) : Nat := L.2.2.1 (1 + t) r 0 0
abbrev gP (L : LY) (t r k : Nat) : Nat := L.2.2.1 (10 + t) r k 0
abbrev gJ (L : LY) (r k j : Nat) : Nat := L.2.2.1 20 r k j
abbrev gJp (L : LY) (p : Nat) : Nat := gJ L (pR p) (pK p) (pJ p)
abbrev gE (L : LY) (i : Nat) : Nat := L.2.2.2 i
abbrev lQ (L : LY) (A : MS) (i : Nat) : Nat := gJp L ((mQ A).getD i 0)
def rcX (σ : SG) (x : Nat) (L : LY) : Prop := sgK σ x = (6, 5) ∧ (sgR σ 6 0 x = lF L 0 ∧ sgR σ 6 1 x = lF L 1 ∧ sgR σ 6 2 x = lF L 2 ∧ sgR σ 6 3 x = lF L 3 ∧ sgR σ 6 4 x = lF L 4) ∧ sgK σ (lF L 3) = (24, 4) ∧ sgK σ (lF L 4) = (0, 1) ∧ sgR σ 0 0 (lF L 4) = lF L 5
def rcL (σ : SG) (L : LY) (A : MS) : Prop :=
  ax_li σ (lF L 0) (lF L 6) (lC L 0) (mN A) (gS L) ∧ ax_li σ (lF L 1) (lF L 7) (lC L 1) (mR A) (gU L 0) ∧ ax_li σ (lF L 2) (lF L 8) (lC L 2) (mQ A).length (lQ L A) ∧ ax_li σ (lF L 5) (lF L 9) (lC L 3) (mE A).length (gE L) ∧ ∀ r, r < mR A → ax_li σ (gU L 2 r) (gU L 3 r) 10 (mU A 16 r) (gP L 0 r)
def rcS (σ : SG) (L : LY) (A : MS) : Prop := ∀ k, k < mN A → sgK σ (gS L k) = (5, 10) ∧ sgI σ 5 0 (gS L k) = nI k ∧ ∀ f, 1 ≤ f → f ≤ 9 → sgI σ 5 f (gS L k) = nI (mS A f k)
def rcU (σ : SG) (L : LY) (A : MS) : Prop := ∀ r, r < mR A → (sgK σ (gU L 0 r) = (4, 5) ∧ sgI σ 4 0 (gU L 0 r) = nI r ∧ sgI σ 4 1 (gU L 0 r) = nI (mU A 12 r) ∧ sgR σ 4 2 (gU L 0 r) = gU L 1 r ∧ sgR σ 4 3 (gU L 0 r) = gU L 2 r) ∧ sgI σ 4 4 (gU L 0 r) = nI (mU A 11 r) ∧ sgK σ (gU L 1 r) = (20, 3) ∧ sgI σ 20 0 (gU L 1 r) = nI (mU A 13 r) ∧ sgI σ 20 1 (gU L 1 r) = nI (mU A 14 r) ∧ sgI σ 20 2 (gU L 1 r) = nI (mU A 15 r)
def rcP (σ : SG) (L : LY) (A : MS) : Prop := ∀ r k, r < mR A → k < mU A 16 r → (sgK σ (gP L 0 r k) = (3, 3) ∧ sgR σ 3 0 (gP L 0 r k) = gU L 0 r ∧ sgR σ 3 1 (gP L 0 r k) = gP L 1 r k ∧ sgR σ 3 2 (gP L 0 r k) = gP L 2 r k) ∧ (sgK σ (gP L 1 r k) = (5, 10) ∧ sgI σ 5 0 (gP L 1 r k) = nI k ∧ ∀ f, 1 ≤ f → f ≤ 9 → sgI σ 5 f (gP L 1 r k) = nI (mP A f r k)) ∧ sgK σ (gP L 2 r k) = (24, 16) ∧ ∀ j, j < 16 → sgR σ 24 j (gP L 2 r k) = if mJ A 0 r k j = 8 then 0 else gJ L r k j
/-- one job -/
def rcJ1 (σ : SG) (L : LY) (A : MS) (r k j : Nat) : Prop := (0 < gJ L r k j ∧ sgK σ (gJ L r k j) = (2, 7) ∧ sgR σ 2 0 (gJ L r k j) = gP L 0 r k ∧ sgI σ 2 1 (gJ L r k j) = nI j) ∧ sgI σ 2 2 (gJ L r k j) = nI (mSt (mJ A 0 r k j)) ∧ sgI σ 2 3 (gJ L r k j) = nI (mJ A 1 r k j) ∧ (mJ A 0 r k j ≤ 2 → sgI σ 2 4 (gJ L r k j) = nI (mJ A 2 r k j)) ∧ sgI σ 2 5 (gJ L r k j) = nI (mJ A 3 r k j) - 1 ∧ sgI σ 2 6 (gJ L r k j) = nI (if mJ A 0 r k j = 7 then 1 else 0)
def rcJ (σ : SG) (L : LY) (A : MS) : Prop := ∀ r k j, r < mR A → k < mU A 16 r → j < 16 → mJ A 0 r k j ≠ 8 → rcJ1 σ L A r k j
def rcW (σ : SG) (L : LY) (A : MS) : Prop := ∀ w, w < 4 → sgR σ 24 w (lF L 3) = if mW A w = 0 then 0 else gJp L (mW A w - 1)
/-- a row of inputs, whose key of the length l is c -/
def ax_ip (σ : SG) (q c l : Nat) : Prop := sgK σ q = (20, 3) ∧ q < sgZ σ ∧ ∃ x y z, x < 100 ∧ y < 100 ∧ z < 100 ∧ sgI σ 20 0 q = nI x ∧ sgI σ 20 1 q = nI y ∧ sgI σ 20 2 q = nI z ∧ c = (10000 * x + 100 * y + z) / mPow (3 - l)
def rcE1 (σ : SG) (q : Nat) (e : Nat × Nat) (l : Nat) : Prop := sgK σ q = (1, 3) ∧ sgI σ 1 0 q = nI e.1 ∧ sgI σ 1 1 q = nI l ∧ ax_ip σ (sgR σ 1 2 q) e.2 l
def rcE (σ : SG) (L : LY) (A : MS) : Prop := ∀ i, i < (mE A).length → rcE1 σ (gE L i) ((mE A).getD i (0, 0)) (mS A 6 ((mE A).getD i (0, 0)).1)
/-- apart, and bounds -/
def rcB (e0 : Nat) (σ : SG) (x : Nat) (L : LY) (A : MS) : Prop :=
  (x < sgZ σ ∧ e0 < sgZ σ ∧ (∀ i, i < 10 → lF L i < sgZ σ) ∧ (∀ t r k j, L.2.2.1 t r k j < sgZ σ) ∧ ∀ i, i < (mE A).length → gE L i < sgZ σ) ∧
  (∀ i j, (i = 0 ∨ i = 1 ∨ i = 2 ∨ i = 5) → (j = 0 ∨ j = 1 ∨ j = 2 ∨ j = 5) → lF L i = lF L j → i = j) ∧ (∀ r i, r < mR A → (i = 0 ∨ i = 1 ∨ i = 2 ∨ i = 5) → gU L 2 r ≠ lF L i) ∧
  (∀ i j, i < 4 → j < 4 → lC L i ≠ 0 → lF L (6 + i) = lF L (6 + j) → i = j) ∧ (∀ r i, r < mR A → i < 4 → gU L 3 r ≠ lF L (6 + i)) ∧
  (∀ i, i < 4 → lC L i ≤ 2000 ∧ (lC L i = 0 → lF L (6 + i) = e0)) ∧
  (∀ r k k', r < mR A → k < mU A 16 r → k' < mN A → gP L 1 r k ≠ gS L k') ∧ ∀ r k, r < mR A → k < mU A 16 r → 0 < gP L 0 r k
def ax_rc (e0 : Nat) (σ : SG) (x : Nat) (L : LY) (A : MS) : Prop := rcX σ x L ∧ rcL σ L A ∧ rcS σ L A ∧ rcU σ L A ∧ rcP σ L A ∧ rcJ σ L A ∧ rcW σ L A ∧ rcE σ L A ∧ rcB e0 σ x L A
section
variable {e0 mo : Nat} {σ σ' : SG} {x : Nat} {L : LY} {A A' : MS} {r k j p w : Nat} {W : Nat → Nat → Nat → Prop}
theorem li_F {a el cap n : Nat} {f : Nat → Nat} (h : ax_li σ a el cap n f) (hF : ax_F W σ σ') (h8 : ¬ W 8 1 a ∧ ¬ W 8 2 a) (h23 : ∀ i, ¬ W 23 i el) : ax_li σ' a el cap n f := by
  obtain ⟨h1, h2, h3, h4, h5, h6, h7, h8', h9, h10⟩ := h
  refine ⟨by rw [hF.2.2.1 a h7]; exact h1, by rw [(hF.2.2.2 8 2 a h7 h8.2).1]; exact h2, by rw [(hF.2.2.2 8 1 a h7 h8.1).2.2]; exact h3, by rw [hF.2.2.1 el h8']; exact h4, h5, h6, Nat.lt_of_lt_of_le h7 hF.1, Nat.lt_of_lt_of_le h8' hF.1, fun i hi => ?_, fun i a1 a2 => ?_⟩
  · rw [(hF.2.2.2 23 i el h8' (h23 i)).2.2]; exact h9 i hi
  · rw [(hF.2.2.2 23 i el h8' (h23 i)).2.2]; exact h10 i a1 a2
theorem li_f {a el cap n : Nat} {f g : Nat → Nat} (h : ax_li σ a el cap n f) (hg : ∀ i, i < n → f i = g i) : ax_li σ a el cap n g := by
  obtain ⟨h1, h2, h3, h4, h5, h6, h7, h8', h9, h10⟩ := h
  exact ⟨h1, h2, h3, h4, h5, h6, h7, h8', fun i hi => (h9 i hi).trans (hg i hi), h10⟩
theorem rcX_F (h : rcX σ x L) (hF : ax_F W σ σ') (hx : x < sgZ σ) (h3 : lF L 3 < sgZ σ) (h4 : lF L 4 < sgZ σ) (n6 : ∀ i, ¬ W 6 i x) (n0 : ∀ i, ¬ W 0 i (lF L 4)) : rcX σ' x L := by
  obtain ⟨a1, ⟨b0, b1, b2, b3, b4⟩, a3, a4, a5⟩ := h
  refine ⟨by rw [hF.2.2.1 x hx]; exact a1, ⟨?_, ?_, ?_, ?_, ?_⟩, by rw [hF.2.2.1 _ h3]; exact a3, by rw [hF.2.2.1 _ h4]; exact a4, by rw [(hF.2.2.2 0 0 _ h4 (n0 0)).2.2]; exact a5⟩
  · rw [(hF.2.2.2 6 0 x hx (n6 0)).2.2]; exact b0
  · rw [(hF.2.2.2 6 1 x hx (n6 1)).2.2]; exact b1
  · rw [(hF.2.2.2 6 2 x hx (n6 2)).2.2]; exact b2
  · rw [(hF.2.2.2 6 3 x hx (n6 3)).2.2]; exact b3
  · rw [(hF.2.2.2 6 4 x hx (n6 4)).2.2]; exact b4
theorem rcS_F (h : rcS σ L A) (hF : ax_F W σ σ') (hb : ∀ t r k j, L.2.2.1 t r k j < sgZ σ) (eN : mN A' = mN A) (eS : ∀ f k, mS A' f k = mS A f k) (n5 : ∀ k i, k < mN A → ¬ W 5 i (gS L k)) : rcS σ' L A' := by
  intro k hk
  rw [eN] at hk
  obtain ⟨a1, a2, a3⟩ := h k hk
  refine ⟨by rw [hF.2.2.1 _ (hb _ _ _ _)]; exact a1, by rw [(hF.2.2.2 5 0 _ (hb _ _ _ _) (n5 k 0 hk)).1]; exact a2, fun f b1 b2 => ?_⟩
  rw [(hF.2.2.2 5 f _ (hb _ _ _ _) (n5 k f hk)).1, eS]
  exact a3 f b1 b2
theorem rcU_F (h : rcU σ L A) (hF : ax_F W σ σ') (hb : ∀ t r k j, L.2.2.1 t r k j < sgZ σ) (eR : mR A' = mR A) (eU : ∀ f r, 12 ≤ f → f ≤ 15 → mU A' f r = mU A f r) (e11 : ∀ r, r < mR A → sgI σ' 4 4 (gU L 0 r) = nI (mU A' 11 r)) (n4 : ∀ r i, r < mR A → i ≠ 4 → ¬ W 4 i (gU L 0 r)) (n20 : ∀ i q, sgK σ q = (20, 3) → ¬ W 20 i q) : rcU σ' L A' := by
  intro r hr
  rw [eR] at hr
  obtain ⟨⟨a1, a2, a3, a4, a5⟩, a6, a7, a8, a9, a10⟩ := h r hr
  have z0 := hb 1 r 0 0
  have z1 := hb 2 r 0 0
  refine ⟨⟨by rw [hF.2.2.1 _ z0]; exact a1, ?_, ?_, ?_, ?_⟩, e11 r hr, by rw [hF.2.2.1 _ z1]; exact a7, ?_, ?_, ?_⟩
  · rw [(hF.2.2.2 4 0 _ z0 (n4 r 0 hr (by decide))).1]; exact a2
  · rw [(hF.2.2.2 4 1 _ z0 (n4 r 1 hr (by decide))).1, eU 12 r (by decide) (by decide)]; exact a3
  · rw [(hF.2.2.2 4 2 _ z0 (n4 r 2 hr (by decide))).2.2]; exact a4
  · rw [(hF.2.2.2 4 3 _ z0 (n4 r 3 hr (by decide))).2.2]; exact a5
  · rw [(hF.2.2.2 20 0 _ z1 (n20 0 _ a7)).1, eU 13 r (by decide) (by decide)]; exact a8
  · rw [(hF.2.2.2 20 1 _ z1 (n20 1 _ a7)).1, eU 14 r (by decide) (by decide)]; exact a9
  · rw [(hF.2.2.2 20 2 _ z1 (n20 2 _ a7)).1, eU 15 r (by decide) (by decide)]; exact a10
theorem rcP_F (h : rcP σ L A) (hF : ax_F W σ σ') (hb : ∀ t r k j, L.2.2.1 t r k j < sgZ σ) (eR : mR A' = mR A) (eU : ∀ r, mU A' 16 r = mU A 16 r) (eP : ∀ f r k, 1 ≤ f → f ≤ 9 → mP A' f r k = mP A f r k) (e8 : ∀ r k j, r < mR A → j < 16 → (mJ A' 0 r k j = 8 ↔ mJ A 0 r k j = 8)) (n3 : ∀ r k i, r < mR A → k < mU A 16 r → ¬ W 3 i (gP L 0 r k)) (n5 : ∀ r k i, r < mR A → k < mU A 16 r → ¬ W 5 i (gP L 1 r k)) (n24 : ∀ r k i, r < mR A → k < mU A 16 r → ¬ W 24 i (gP L 2 r k)) : rcP σ' L A' := by
  intro r k hr hk
  rw [eR] at hr
  rw [eU] at hk
  obtain ⟨⟨a1, a2, a3, a4⟩, ⟨b1, b2, b3⟩, c1, c2⟩ := h r k hr hk
  refine ⟨⟨by rw [hF.2.2.1 _ (hb _ _ _ _)]; exact a1, ?_, ?_, ?_⟩, ⟨by rw [hF.2.2.1 _ (hb _ _ _ _)]; exact b1, ?_, fun f f1 f2 => ?_⟩, by rw [hF.2.2.1 _ (hb _ _ _ _)]; exact c1, fun j hj => ?_⟩
  · rw [(hF.2.2.2 3 0 _ (hb _ _ _ _) (n3 r k 0 hr hk)).2.2]; exact a2
  · rw [(hF.2.2.2 3 1 _ (hb _ _ _ _) (n3 r k 1 hr hk)).2.2]; exact a3
  · rw [(hF.2.2.2 3 2 _ (hb _ _ _ _) (n3 r k 2 hr hk)).2.2]; exact a4
  · rw [(hF.2.2.2 5 0 _ (hb _ _ _ _) (n5 r k 0 hr hk)).1]; exact b2
  · rw [(hF.2.2.2 5 f _ (hb _ _ _ _) (n5 r k f hr hk)).1, eP f r k f1 f2]; exact b3 f f1 f2
  · rw [(hF.2.2.2 24 j _ (hb _ _ _ _) (n24 r k j hr hk)).2.2, c2 j hj]
    by_cases z : mJ A 0 r k j = 8
    · rw [if_pos z, if_pos ((e8 r k j hr hj).mpr z)]
    · rw [if_neg z, if_neg (fun y => z ((e8 r k j hr hj).mp y))]
theorem rcJ1_F (h : rcJ1 σ L A r k j) (hF : ax_F W σ σ') (hb : ∀ t r k j, L.2.2.1 t r k j < sgZ σ) (eJ : ∀ f, f < 4 → mJ A' f r k j = mJ A f r k j) (n2 : ∀ i, ¬ W 2 i (gJ L r k j)) : rcJ1 σ' L A' r k j := by
  obtain ⟨⟨a1, a2, a3, a4⟩, a5, a6, a7, a8, a9⟩ := h
  have z := hb 20 r k j
  unfold rcJ1
  rw [eJ 0 (by decide), eJ 1 (by decide), eJ 2 (by decide), eJ 3 (by decide)]
  refine ⟨⟨a1, by rw [hF.2.2.1 _ z]; exact a2, ?_, ?_⟩, ?_, ?_, fun y => ?_, ?_, ?_⟩
  · rw [(hF.2.2.2 2 0 _ z (n2 0)).2.2]; exact a3
  · rw [(hF.2.2.2 2 1 _ z (n2 1)).1]; exact a4
  · rw [(hF.2.2.2 2 2 _ z (n2 2)).1]; exact a5
  · rw [(hF.2.2.2 2 3 _ z (n2 3)).1]; exact a6
  · rw [(hF.2.2.2 2 4 _ z (n2 4)).1]; exact a7 y
  · rw [(hF.2.2.2 2 5 _ z (n2 5)).1]; exact a8
  · rw [(hF.2.2.2 2 6 _ z (n2 6)).1]; exact a9
theorem rcW_F (h : rcW σ L A) (hF : ax_F W σ σ') (h3 : lF L 3 < sgZ σ) (eW : ∀ w, w < 4 → mW A' w = mW A w) (n24 : ∀ i, ¬ W 24 i (lF L 3)) : rcW σ' L A' := by
  intro w hw
  rw [(hF.2.2.2 24 w _ h3 (n24 w)).2.2, eW w hw]
  exact h w hw
theorem ip_F {q c l : Nat} (h : ax_ip σ q c l) (hF : ax_F W σ σ') (n20 : ∀ i q, sgK σ q = (20, 3) → ¬ W 20 i q) : ax_ip σ' q c l := by
  obtain ⟨a1, a2, x, y, z, b1, b2, b3, b4, b5, b6, b7⟩ := h
  refine ⟨by rw [hF.2.2.1 _ a2]; exact a1, Nat.lt_of_lt_of_le a2 hF.1, x, y, z, b1, b2, b3, ?_, ?_, ?_, b7⟩
  · rw [(hF.2.2.2 20 0 _ a2 (n20 0 _ a1)).1]; exact b4
  · rw [(hF.2.2.2 20 1 _ a2 (n20 1 _ a1)).1]; exact b5
  · rw [(hF.2.2.2 20 2 _ a2 (n20 2 _ a1)).1]; exact b6
theorem rcE1_F {q l : Nat} {e : Nat × Nat} (h : rcE1 σ q e l) (hF : ax_F W σ σ') (hq : q < sgZ σ) (n1 : ∀ i, ¬ W 1 i q) (n20 : ∀ i q, sgK σ q = (20, 3) → ¬ W 20 i q) : rcE1 σ' q e l := by
  obtain ⟨a1, a2, a3, a4⟩ := h
  refine ⟨by rw [hF.2.2.1 _ hq]; exact a1, by rw [(hF.2.2.2 1 0 _ hq (n1 0)).1]; exact a2, by rw [(hF.2.2.2 1 1 _ hq (n1 1)).1]; exact a3, ?_⟩
  rw [(hF.2.2.2 1 2 _ hq (n1 2)).2.2]
  exact ip_F a4 hF n20
theorem rcB_F (h : rcB e0 σ x L A) (hZ : sgZ σ ≤ sgZ σ') (eR : mR A' = mR A) (eN : mN A' = mN A) (eU : ∀ r, mU A' 16 r = mU A 16 r) (eE : (mE A').length = (mE A).length) : rcB e0 σ' x L A' := by
  obtain ⟨⟨a1, a2, a3, a4, a5⟩, b1, b2, b3, b4, b5, b6, b7⟩ := h
  refine ⟨⟨Nat.lt_of_lt_of_le a1 hZ, Nat.lt_of_lt_of_le a2 hZ, fun i hi => Nat.lt_of_lt_of_le (a3 i hi) hZ, fun t r k j => Nat.lt_of_lt_of_le (a4 t r k j) hZ, fun i hi => ?_⟩, b1, fun r i hr hi => ?_, b3, fun r i hr hi => ?_, b5, fun r k k' hr hk hk' => ?_, fun r k hr hk => ?_⟩
  · rw [eE] at hi
    exact Nat.lt_of_lt_of_le (a5 i hi) hZ
  · rw [eR] at hr; exact b2 r i hr hi
  · rw [eR] at hr; exact b4 r i hr hi
  · rw [eR] at hr
    rw [eU] at hk
    rw [eN] at hk'
    exact b6 r k k' hr hk hk'
  · rw [eR] at hr
    rw [eU] at hk
    exact b7 r k hr hk
theorem rcL_F (h : rcL σ L A) (hF : ax_F W σ σ') (eR : mR A' = mR A) (eN : mN A' = mN A) (eU : ∀ r, mU A' 16 r = mU A 16 r) (eQ : mQ A' = mQ A) (eE : (mE A').length = (mE A).length) (n8 : ∀ i q, ¬ W 8 i q) (n23 : ∀ i q, ¬ W 23 i q) : rcL σ' L A' := by
  obtain ⟨a1, a2, a3, a4, a5⟩ := h
  refine ⟨?_, ?_, ?_, ?_, fun r hr => ?_⟩
  · rw [eN]; exact li_F a1 hF ⟨n8 _ _, n8 _ _⟩ (fun i => n23 i _)
  · rw [eR]; exact li_F a2 hF ⟨n8 _ _, n8 _ _⟩ (fun i => n23 i _)
  · unfold lQ
    rw [eQ]; exact li_F a3 hF ⟨n8 _ _, n8 _ _⟩ (fun i => n23 i _)
  · rw [eE]; exact li_F a4 hF ⟨n8 _ _, n8 _ _⟩ (fun i => n23 i _)
  · rw [eR] at hr
    rw [eU]
    exact li_F (a5 r hr) hF ⟨n8 _ _, n8 _ _⟩ (fun i => n23 i _)
/-- what touches nothing of the class leaves it -/
theorem rc_F (h : ax_rc e0 σ x L A) (hF : ax_F W σ σ') (hW : ∀ k i q, W k i q → k = 7 ∨ k = 21 ∨ k = 22 ∨ k = 25 ∨ (k = 20 ∧ sgK σ q ≠ (20, 3))) : ax_rc e0 σ' x L A := by
  obtain ⟨hX, hL, hS, hU, hP, hJ, hWk, hE, hB⟩ := h
  have no : ∀ k i q, k ≠ 7 → k ≠ 21 → k ≠ 22 → k ≠ 25 → k ≠ 20 → ¬ W k i q := fun k i q a b c d e z => by
    rcases hW k i q z with y | y | y | y | y
    · exact a y
    · exact b y
    · exact c y
    · exact d y
    · exact e y.1
  have n20 : ∀ i q, sgK σ q = (20, 3) → ¬ W 20 i q := fun i q a z => by
    rcases hW 20 i q z with y | y | y | y | y
    · cases y
    · cases y
    · cases y
    · cases y
    · exact y.2 a
  have hb := hB.1.2.2.2.1
  have hf := hB.1.2.2.1
  refine ⟨rcX_F hX hF hB.1.1 (hf 3 (by decide)) (hf 4 (by decide)) (fun i => no _ _ _ (by decide) (by decide) (by decide) (by decide) (by decide)) (fun i => no _ _ _ (by decide) (by decide) (by decide) (by decide) (by decide)), rcL_F hL hF rfl rfl (fun _ => rfl) rfl rfl (fun i q => no _ _ _ (by decide) (by decide) (by decide) (by decide) (by decide)) (fun i q => no _ _ _ (by decide) (by decide) (by decide) (by decide) (by decide)), rcS_F hS hF hb rfl (fun _ _ => rfl) (fun _ _ _ => no _ _ _ (by decide) (by decide) (by decide) (by decide) (by decide)), rcU_F hU hF hb rfl (fun _ _ _ _ => rfl) (fun r hr => ?_) (fun _ _ _ _ => no _ _ _ (by decide) (by decide) (by decide) (by decide) (by decide)) n20, rcP_F hP hF hb rfl (fun _ => rfl) (fun _ _ _ _ _ => rfl) (fun _ _ _ _ _ => Iff.rfl) (fun _ _ _ _ _ => no _ _ _ (by decide) (by decide) (by decide) (by decide) (by decide)) (fun _ _ _ _ _ => no _ _ _ (by decide) (by decide) (by decide) (by decide) (by decide)) (fun _ _ _ _ _ => no _ _ _ (by decide) (by decide) (by decide) (by decide) (by decide)), fun r k j a b c d => rcJ1_F (hJ r k j a b c d) hF hb (fun _ _ => rfl) (fun _ => no _ _ _ (by decide) (by decide) (by decide) (by decide) (by decide)), rcW_F hWk hF (hf 3 (by decide)) (fun _ _ => rfl) (fun _ => no _ _ _ (by decide) (by decide) (by decide) (by decide) (by decide)), fun i hi => rcE1_F (hE i hi) hF (hB.1.2.2.2.2 i hi) (fun _ => no _ _ _ (by decide) (by decide) (by decide) (by decide) (by decide)) n20, rcB_F hB hF.1 rfl rfl (fun _ => rfl) rfl⟩
  rw [(hF.2.2.2 4 4 _ (hb _ _ _ _) (no _ _ _ (by decide) (by decide) (by decide) (by decide) (by decide))).1]
  exact (hU r hr).2.1
/-- two jobs are one only if they are the same -/
theorem gJ_inj (h : ax_rc e0 σ x L A) (hm : mN A ≤ 8 ∧ mR A ≤ 80) {r k j r' k' j' : Nat} (a1 : r < mR A) (a2 : k < mU A 16 r) (a3 : j < 16) (a4 : mJ A 0 r k j ≠ 8) (b1 : r' < mR A) (b2 : k' < mU A 16 r') (b3 : j' < 16) (b4 : mJ A 0 r' k' j' ≠ 8) (hk : k < 8) (hk' : k' < 8) (e : gJ L r k j = gJ L r' k' j') : r = r' ∧ k = k' ∧ j = j' := by
  obtain ⟨hX, hL, hS, hU, hP, hJ, hWk, hE, hB⟩ := h
  have j1 := (hJ r k j a1 a2 a3 a4).1
  have j2 := (hJ r' k' j' b1 b2 b3 b4).1
  have ej : j = j' := by
    have e1 := j1.2.2.2
    rw [e, j2.2.2.2] at e1
    exact ((nI_eq (by omega) (by omega)).mp e1).symm
  have ep : gP L 0 r k = gP L 0 r' k' := by
    have e1 := j1.2.2.1
    rw [e, j2.2.2.1] at e1
    exact e1.symm
  have p1 := hP r k a1 a2
  have p2 := hP r' k' b1 b2
  have er : r = r' := by
    have e1 := p1.1.2.1
    rw [ep, p2.1.2.1] at e1
    have u1 := (hU r a1).1.2.1
    rw [← e1, (hU r' b1).1.2.1] at u1
    exact ((nI_eq (by omega) (by omega)).mp u1).symm
  have ek : k = k' := by
    have e1 := p1.1.2.2.1
    rw [ep, p2.1.2.2.1] at e1
    have u1 := p1.2.1.2.1
    rw [← e1, p2.2.1.2.1] at u1
    exact ((nI_eq (by omega) (by omega)).mp u1).symm
  exact ⟨er, ek, ej⟩
end
end AXRA
