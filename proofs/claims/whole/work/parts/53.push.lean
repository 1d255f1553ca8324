/-! The reference's push. -/
section AXNA
/-- what all stages need, as one number -/
def mNs (A : MS) : Nat → Nat
  | 0 => 0
  | n + 1 => mNs A n + 256 ^ n * mS A 4 n
theorem mNs_lt {A : MS} (h : ∀ k, mS A 4 k < 256) : ∀ i, mNs A i < 2 ^ (8 * i) := by
  intro i
  induction i with
  | zero => exact Nat.one_pos
  | succ i ih =>
    have h2 := h i
    show mNs A i + 256 ^ i * mS A 4 i < 2 ^ (8 * (i + 1))
    rw [show (256 : Nat) = 2 ^ 8 from rfl, ← Nat.pow_mul, show 8 * (i + 1) = 8 * i + 8 from rfl, Nat.pow_add]
    have h3 : 2 ^ (8 * i) * mS A 4 i ≤ 2 ^ (8 * i) * 255 := Nat.mul_le_mul_left _ (by omega)
    omega
theorem mNs_top {A : MS} {n : Nat} (h : ∀ k, n ≤ k → mS A 4 k = 0) : ∀ i, mNs A (n + i) = mNs A n := by
  intro i
  induction i with
  | zero => rfl
  | succ i ih =>
    show mNs A (n + i) + 256 ^ (n + i) * mS A 4 (n + i) = _
    rw [h (n + i) (by omega), ih, Nat.mul_zero, Nat.add_zero]
/-- σ1 is σ but for the row of the new run R -/
def ax_nw (σ σ1 : SG) (M : Nat → Nat) (R : Nat) : Prop := sgK σ1 = sgK σ ∧ sgR σ1 = sgR σ ∧ (∀ k i q, ¬ (k = 20 ∧ i = R ∧ (q = M 11 ∨ q = M 12 ∨ q = M 13 ∨ q = M 14)) → ¬ (k = 20 ∧ 128 * R ≤ i ∧ q = M 17) → sgI σ1 k i q = sgI σ k i q) ∧ (∀ i q, ¬ (i = R ∧ q = M 15) → sgJ σ1 22 i q = sgJ σ 22 i q)
section
variable {e0 mo : Nat} {σ σ1 : SG} {m : Nat} {M : Nat → Nat} {A B : MS} {r k j p w R : Nat}
theorem nw_refl (σ : SG) (M : Nat → Nat) (R : Nat) : ax_nw σ σ M R := ⟨rfl, rfl, fun _ _ _ _ _ => rfl, fun _ _ _ => rfl⟩
theorem nw_run (h : ax_nw σ σ1 M R) {i : Nat} (hi : i = 11 ∨ i = 12 ∨ i = 13 ∨ i = 14) {v : Int32} : ax_nw σ (putI σ1 20 R (M i) v) M R := ⟨h.1, h.2.1, fun k' i' q' n1 n2 => by
  rw [gI_putI, if_neg (show ¬ (k' = 20 ∧ i' = R ∧ q' = M i) from fun z => n1 ⟨z.1, z.2.1, by rcases hi with rfl | rfl | rfl | rfl <;> simp [z.2.2]⟩)]
  exact h.2.2.1 k' i' q' n1 n2, h.2.2.2⟩
theorem nw_job (h : ax_nw σ σ1 M R) {i : Nat} (hi : 128 * R ≤ i) {v : Int32} : ax_nw σ (putI σ1 20 i (M 17) v) M R := ⟨h.1, h.2.1, fun k' i' q' n1 n2 => by
  rw [gI_putI, if_neg (show ¬ (k' = 20 ∧ i' = i ∧ q' = M 17) from fun z => n2 ⟨z.1, by omega, z.2.2⟩)]
  exact h.2.2.1 k' i' q' n1 n2, h.2.2.2⟩
theorem nw_need (h : ax_nw σ σ1 M R) {v : Int64} : ax_nw σ (putJ σ1 22 R (M 15) v) M R := ⟨h.1, h.2.1, h.2.2.1, fun i' q' n => by
  rw [gJ_putJ, if_neg (show ¬ (22 = 22 ∧ i' = R ∧ q' = M 15) from fun z => n z.2)]
  exact h.2.2.2 i' q' n⟩
theorem rm_nw (h : ax_rm σ m M B) (hw : ax_nw σ σ1 M R) (hR : mR B ≤ R) : ax_rm σ1 m M B := by
  obtain ⟨h0, ⟨c1, c2, c3, c4⟩, h2, h3, h4, h5, h6, h7, h8, h9⟩ := h
  obtain ⟨hK, hRR, hO, hJO⟩ := hw
  have mk : ∀ i, i = 11 ∨ i = 12 ∨ i = 13 ∨ i = 14 ∨ i = 15 ∨ i = 17 → ax_mr i := fun i hi => by rcases hi with rfl | rfl | rfl | rfl | rfl | rfl <;> exact mr_of (by decide) (by decide) (by decide) (by decide)
  have ap : ∀ i, ax_mr i → i ≠ 11 → i ≠ 12 → i ≠ 13 → i ≠ 14 → i ≠ 17 → ∀ k x, sgI σ1 k x (M i) = sgI σ k x (M i) := fun i hi n1 n2 n3 n4 n5 k x => hO _ _ _ (fun z => by
    rcases z.2.2 with y | y | y | y
    · exact rm_apart h0 hi (mk 11 (by decide)) n1 y
    · exact rm_apart h0 hi (mk 12 (by decide)) n2 y
    · exact rm_apart h0 hi (mk 13 (by decide)) n3 y
    · exact rm_apart h0 hi (mk 14 (by decide)) n4 y) (fun z => rm_apart h0 hi (mk 17 (by decide)) n5 z.2.2)
  have ru : ∀ i, i = 11 ∨ i = 12 ∨ i = 13 ∨ i = 14 → ∀ x, x < mR B → sgI σ1 20 x (M i) = sgI σ 20 x (M i) := fun i hi x hx => hO _ _ _ (fun z => by omega) (fun z => rm_apart h0 (mk i (by omega)) (mk 17 (by decide)) (by omega) z.2.2)
  have num : ∀ i, sgI σ1 7 i m = sgI σ 7 i m := fun i => hO _ _ _ (fun z => absurd z.1 (by decide)) (fun z => absurd z.1 (by decide))
  refine ⟨⟨by rw [hK]; exact h0.1, fun i hi => by rw [hRR, hK]; exact h0.2.1 i hi, h0.2.2⟩, ⟨by rw [num]; exact c1, by rw [num]; exact c2, by rw [num]; exact c3, by rw [num]; exact c4⟩, fun f k p1 p2 p3 => ?_, fun r hr => ?_, fun r hr => ?_, fun r hr hg hx => ?_, fun r k j hr hk hj => ?_, fun i hi => ?_, fun w hw => ?_, fun i hi => ?_⟩
  · rw [ap f (mr_of (by omega) (by omega) (by omega) (by omega)) (by omega) (by omega) (by omega) (by omega) (by omega)]
    exact h2 f k p1 p2 p3
  · rw [ru 11 (by decide) r hr, ru 12 (by decide) r hr, ru 13 (by decide) r hr, ru 14 (by decide) r hr]
    exact h3 r hr
  · rw [hJO _ _ (fun z => by omega)]
    exact h4 r hr
  · rw [ap 16 (mr_of (by decide) (by decide) (by decide) (by decide)) (by decide) (by decide) (by decide) (by decide) (by decide)]
    exact h5 r hr hg hx
  · rw [hO 20 _ (M 17) (fun z => by
      rcases z.2.2 with y | y | y | y
      · exact rm_apart h0 (mk 17 (by decide)) (mk 11 (by decide)) (by decide) y
      · exact rm_apart h0 (mk 17 (by decide)) (mk 12 (by decide)) (by decide) y
      · exact rm_apart h0 (mk 17 (by decide)) (mk 13 (by decide)) (by decide) y
      · exact rm_apart h0 (mk 17 (by decide)) (mk 14 (by decide)) (by decide) y) (fun z => by omega)]
    exact h6 r k j hr hk hj
  · rw [ap 18 (mr_of (by decide) (by decide) (by decide) (by decide)) (by decide) (by decide) (by decide) (by decide) (by decide)]
    exact h7 i hi
  · rw [ap 20 (mr_of (by decide) (by decide) (by decide) (by decide)) (by decide) (by decide) (by decide) (by decide) (by decide)]
    exact h8 w hw
  · rw [ap 21 (mr_of (by decide) (by decide) (by decide) (by decide)) (by decide) (by decide) (by decide) (by decide) (by decide)]
    exact h9 i hi
/-- the new run's rows: what it needs of s stages, t jobs -/
def nwF (B : MS) (b x y z : Nat) (σ1 : SG) (M : Nat → Nat) (s t : Nat) : Prop :=
  (sgI σ1 20 (mR B) (M 11) = 7 ∧ sgI σ1 20 (mR B) (M 12) = nI b ∧ sgI σ1 20 (mR B) (M 13) = nI (10000 * x + 100 * y + z) ∧ sgI σ1 20 (mR B) (M 14) = nI (mN B)) ∧ sgJ σ1 22 (mR B) (M 15) = lN (mNs B s) ∧ ∀ k j, k < 8 → j < 16 → 16 * k + j < t → sgI σ1 20 (128 * mR B + 16 * k + j) (M 17) = nI (mNv B b x y z 40 k j)
theorem rm_new (h : ax_rm σ1 m M B) (hI : mB B) {b x y z : Nat} (hF : nwF B b x y z σ1 M 8 128) : ax_rm (putI σ1 7 10 m (nI (mR B + 1))) m M (mNew B b x y z) := by
  obtain ⟨h0, ⟨c1, c2, c3, c4⟩, h2, h3, h4, h5, h6, h7, h8, h9⟩ := h
  obtain ⟨⟨n1, n2, n3, n4⟩, n5, n6⟩ := hF
  have hNN := hI.1.1
  have eR := mNew_R B b x y z
  have lo : ∀ f r k j, f < 10 → (mNew B b x y z).1 f r k j = B.1 f r k j := fun f r k j a => mNew_old (by omega) (by omega)
  have old : ∀ f r k j, r < mR B → f ≠ 10 → (mNew B b x y z).1 f r k j = B.1 f r k j := fun f r k j a c => mNew_old c (by omega)
  have row : ∀ k i q, k ≠ 7 → sgI (putI σ1 7 10 m (nI (mR B + 1))) k i q = sgI σ1 k i q := fun k i q hk => by rw [gI_putI, if_neg (show ¬ (k = 7 ∧ i = 10 ∧ q = m) from fun z => hk z.1)]
  have num : ∀ i, i ≠ 10 → sgI (putI σ1 7 10 m (nI (mR B + 1))) 7 i m = sgI σ1 7 i m := fun i hi => by rw [gI_putI, if_neg (show ¬ (7 = 7 ∧ i = 10 ∧ m = m) from fun z => hi z.2.1)]
  refine ⟨h0, ⟨by rw [num 0 (by decide), show mN (mNew B b x y z) = mN B from lo 0 0 0 0 (by decide)]; exact c1, ?_, by rw [num 19 (by decide)]; exact c3, by rw [num 22 (by decide)]; exact c4⟩, fun f k p1 p2 p3 => ?_, fun r hr => ?_, fun r hr => ?_, fun r hr hg hx => ?_, fun r k j hr hk hj => ?_, fun i hi => ?_, fun w hw => ?_, fun i hi => ?_⟩
  · rw [eR]; exact if_pos ⟨rfl, rfl, rfl⟩
  · rw [row _ _ _ (by split <;> decide), show mS (mNew B b x y z) f k = mS B f k from lo f k 0 0 (by omega)]
    exact h2 f k p1 p2 p3
  · rw [eR] at hr
    rw [row _ _ _ (by decide), row _ _ _ (by decide), row _ _ _ (by decide), row _ _ _ (by decide)]
    rcases Nat.lt_succ_iff_lt_or_eq.mp hr with q | q
    · have d := h3 r q
      unfold mInp at d ⊢
      rw [show mU (mNew B b x y z) 11 r = mU B 11 r from old 11 r 0 0 q (by decide), show mU (mNew B b x y z) 12 r = mU B 12 r from old 12 r 0 0 q (by decide), show mU (mNew B b x y z) 13 r = mU B 13 r from old 13 r 0 0 q (by decide), show mU (mNew B b x y z) 14 r = mU B 14 r from old 14 r 0 0 q (by decide), show mU (mNew B b x y z) 15 r = mU B 15 r from old 15 r 0 0 q (by decide), show mU (mNew B b x y z) 16 r = mU B 16 r from old 16 r 0 0 q (by decide)]
      exact d
    · unfold mInp
      rw [q, n1, n2, n3, n4, show mU (mNew B b x y z) 11 (mR B) = 7 from mNew_at (by decide) (by decide), show mU (mNew B b x y z) 12 (mR B) = b from mNew_at (by decide) (by decide), show mU (mNew B b x y z) 13 (mR B) = x from mNew_at (by decide) (by decide), show mU (mNew B b x y z) 14 (mR B) = y from mNew_at (by decide) (by decide), show mU (mNew B b x y z) 15 (mR B) = z from mNew_at (by decide) (by decide), show mU (mNew B b x y z) 16 (mR B) = mN B from mNew_at (by decide) (by decide)]
      exact ⟨rfl, rfl, rfl, rfl⟩
  · rw [eR] at hr
    rcases Nat.lt_succ_iff_lt_or_eq.mp hr with q | q
    · rw [show mU (mNew B b x y z) 16 r = mU B 16 r from old 16 r 0 0 q (by decide), mNeeds_cong (A := B) (fun k => old 24 r k 0 q (by decide))]
      exact h4 r q
    · rw [q]
      have e1 : ∀ n, mNeeds (mNew B b x y z) (mR B) n = mNs B n := by
        intro n
        induction n with
        | zero => rfl
        | succ n ih =>
          show mNeeds (mNew B b x y z) (mR B) n + 256 ^ n * mP (mNew B b x y z) 4 (mR B) n = _
          rw [ih, show mP (mNew B b x y z) 4 (mR B) n = mS B 4 n from (mNew_at (by decide) (by decide)).trans (mNv_P (by decide) (by decide))]
          rfl
      have e2 : mNs B 8 = mNs B (mN B) := by
        have := mNs_top (A := B) (n := mN B) (fun k hk => hI.2.2.2.1 k 4 hk (by decide) (by decide)) (8 - mN B)
        rw [show mN B + (8 - mN B) = 8 by omega] at this
        exact this
      rw [e1, show mU (mNew B b x y z) 16 (mR B) = mN B from mNew_at (by decide) (by decide), ← e2]
      exact n5
  · rw [eR] at hr
    rw [row _ _ _ (by decide)]
    rcases Nat.lt_succ_iff_lt_or_eq.mp hr with q | q
    · rw [show mU (mNew B b x y z) 16 r = mU B 16 r from old 16 r 0 0 q (by decide), mGoods_cong (A := B) (fun k j => old 40 r k j q (by decide)) (fun k => old 28 r k 0 q (by decide))]
      refine h5 r q (fun zz => hg ?_) ?_
      · unfold mG at zz ⊢
        rw [show mU (mNew B b x y z) 11 r = mU B 11 r from old 11 r 0 0 q (by decide)]
        exact zz
      · rw [show (mNew B b x y z).1 60 0 0 0 = B.1 60 0 0 0 from mNew_old (by decide) (by omega)] at hx
        exact hx
    · refine absurd (Or.inl ?_) hg
      rw [q]
      exact mNew_at (by decide) (by decide)
  · rw [eR] at hr
    rw [row _ _ _ (by decide)]
    rcases Nat.lt_succ_iff_lt_or_eq.mp hr with q | q
    · have e := h6 r k j q hk hj
      unfold mC at e ⊢
      rw [show mJ (mNew B b x y z) 0 r k j = mJ B 0 r k j from old 40 r k j q (by decide), show mJ (mNew B b x y z) 1 r k j = mJ B 1 r k j from old 41 r k j q (by decide), show mJ (mNew B b x y z) 2 r k j = mJ B 2 r k j from old 42 r k j q (by decide), show mJ (mNew B b x y z) 3 r k j = mJ B 3 r k j from old 43 r k j q (by decide)]
      exact e
    · rw [q, n6 k j hk hj (by omega)]
      unfold mC
      rw [show mJ (mNew B b x y z) 0 (mR B) k j = mNv B b x y z 40 k j from mNew_at (by decide) (by decide), show mJ (mNew B b x y z) 1 (mR B) k j = 0 from mNew_at (by decide) (by decide), show mJ (mNew B b x y z) 2 (mR B) k j = 0 from mNew_at (by decide) (by decide), show mJ (mNew B b x y z) 3 (mR B) k j = 0 from mNew_at (by decide) (by decide)]
      rfl
  · rw [row _ _ _ (by decide)]
    exact h7 i hi
  · rw [row _ _ _ (by decide), show mW (mNew B b x y z) w = mW B w from mNew_old (by decide) (by omega)]
    exact h8 w hw
  · rw [row _ _ _ (by decide)]
    exact h9 i hi
theorem new_loop {l1 l2 l3 l4 l5 : Int32} {Q : Res → SG → Prop} {b x y z n : Nat} (h : ax_rm σ m M B) (hJ : mJJ B) (hT : mTn B n) (hn : n < 1000) (hN : 1 ≤ mN B) (hR : mR B < 80) (hg : mGo B ≤ 5) (hb : b < 4) (hx : x < 100) (hy : y < 100) (hz : z < 100) (hw : ax_nw σ σ1 M (mR B)) (hf : ax_mf m M σ σ1) (hF : nwF B b x y z σ1 M 0 0) (K : ∀ σ2, ax_rm σ2 m M (mFol (mNew B b x y z) (mR B)) → ax_mf m M σ σ2 → Q (.inl (aI (nI (mR B)))) σ2) : ax_wp e0 mo 7 119 (198, [aR m, aI l1, aI l2, aI l3, aI l4, aI l5, aI (nI (mR B)), aI 0, aU, aU], []) σ1 Q := by
  have hI := hJ.1.1
  have hNN := hI.1.1
  have hs4 : ∀ k, mS B 4 k < 256 := fun k => by
    rcases Nat.lt_or_ge k (mN B) with q | q
    · exact mB_needs hI k q
    · rw [hI.2.2.2.1 k 4 q (by decide) (by decide)]; decide
  have a17 : ax_mr 17 := mr_of (by decide) (by decide) (by decide) (by decide)
  have a15 : ax_mr 15 := mr_of (by decide) (by decide) (by decide) (by decide)
  have cR : (nI (mR B)).toNatClampNeg = mR B := nI_clamp (by omega)
  refine ax_down (N := 8) (fun s => ∀ (σ1 : SG) (v8 v9 : AV), ax_nw σ σ1 M (mR B) → ax_mf m M σ σ1 → nwF B b x y z σ1 M s (16 * s) → ax_wp e0 mo 7 119 (198, [aR m, aI l1, aI l2, aI l3, aI l4, aI l5, aI (nI (mR B)), aI (nI s), v8, v9], []) σ1 Q) ?_ (fun s hs ih => ?_) 0 (Nat.zero_le _) σ1 aU aU hw hf hF
  · intro σ1 v8 v9 hw hf hF
    have h1 := rm_nw h hw (Nat.le_refl _)
    refine sg_119_198 (d := 6) ⟨fun q => absurd q (by decide), fun _ => ⟨ax_kd h1.1.1, ax_kd h1.1.1, ax_kd h1.1.1, ?_⟩⟩
    rw [h1.2.1.2.1, nI_1]
    have h2 := rm_new h1 hI hF
    have j2 := mJJ_new hJ (b := b) (x := x) (y := y) (z := z) hN hR hg hb hx hy hz
    have hr : mR B < mR (mNew B b x y z) := by rw [mNew_R]; omega
    refine ax_use (ct_117 h2 j2 (mTn_T (mTn_new hT) (by omega)) hr (Or.inl (mNew_at (by decide) (by decide)))) rfl fun w σ3 hw3 => ?_
    obtain ⟨rfl, h3, f3⟩ := hw3
    exact sg_119_356 (d := 6) (K σ3 h3 ((hf.num _).trans f3))
  · intro σ1 v8 v9 hw hf hF
    have h1 := rm_nw h hw (Nat.le_refl _)
    obtain ⟨g1, g2⟩ := rm_row h1 a15
    have i15 : ax_in σ1 22 (M 15) (nI (mR B)) := ax_in_nI (n := 80) g2 hR (by decide)
    obtain ⟨r4, i4, c4, v4⟩ := rm_st h1 (f := 4) (by decide) (by decide) hs
    have v4 : sgI σ1 20 s (M 4) = nI (mS B 4 s) := v4
    have hlt := mNs_lt hs4 s
    have hs48 := hs4 s
    have jobs : ∀ (σ2 : SG) (v : AV), ax_nw σ σ2 M (mR B) → ax_mf m M σ σ2 → nwF B b x y z σ2 M (s + 1) (16 * s) → ax_wp e0 mo 7 119 (245, [aR m, aI l1, aI l2, aI l3, aI l4, aI l5, aI (nI (mR B)), aI (nI s), aI 0, v], []) σ2 Q := by
      intro σ2 v hw2 hf2 hF2
      refine ax_down (N := 16) (fun j => ∀ (σ2 : SG) (v : AV), ax_nw σ σ2 M (mR B) → ax_mf m M σ σ2 → nwF B b x y z σ2 M (s + 1) (16 * s + j) → ax_wp e0 mo 7 119 (245, [aR m, aI l1, aI l2, aI l3, aI l4, aI l5, aI (nI (mR B)), aI (nI s), aI (nI j), v], []) σ2 Q) ?_ (fun j hj ih2 => ?_) 0 (Nat.zero_le _) σ2 v hw2 hf2 hF2
      · intro σ2 v hw2 hf2 hF2
        refine sg_119_245 (d := 6) ⟨fun q => absurd q (by decide), fun _ => ?_⟩
        rw [nI_1]
        exact ih σ2 _ _ hw2 hf2 hF2
      · intro σ2 v hw2 hf2 hF2
        have h2 := rm_nw h hw2 (Nat.le_refl _)
        obtain ⟨r1, i1, c1, v1⟩ := rm_st h2 (f := 1) (by decide) (by decide) hs
        obtain ⟨r2, i2, -, v2⟩ := rm_st h2 (f := 2) (by decide) (by decide) hs
        obtain ⟨r3, i3, -, v3⟩ := rm_st h2 (f := 3) (by decide) (by decide) hs
        have v1 : sgI σ2 20 s (M 1) = nI (mS B 1 s) := v1
        have v2 : sgI σ2 20 s (M 2) = nI (mS B 2 s) := v2
        have v3 : sgI σ2 20 s (M 3) = nI (mS B 3 s) := v3
        obtain ⟨g1, g2⟩ := rm_row h2 a17
        have hpl : pl (mR B) s j < 10240 := by
          show 128 * mR B + 16 * s + j < _
          omega
        have i17 : ax_in σ2 20 (M 17) (nI (pl (mR B) s j)) := ax_in_nI (n := 10240) g2 hpl (by decide)
        have cp : (nI (pl (mR B) s j)).toNatClampNeg = pl (mR B) s j := nI_clamp (by omega)
        have last : ∀ o : Bool, mNv B b x y z 40 s j = (bif o then 0 else 8) → ax_wp e0 mo 6 103 (0, ax_entry 103 [aI (nI (mR B)), aI (nI s), aI (nI j)], []) σ2 (ax_ct (fun v σ3 => ax_wp e0 mo 7 119 (316, [aR m, aI l1, aI l2, aI l3, aI l4, aI l5, aI (nI (mR B)), aI (nI s), aI (nI j), aI (bI o)], ax_push v [aR (M 17)]) σ3 Q) (fun E σ3 => ax_exc 119 313 Q E σ3)) := fun o ho => by
          refine ax_use0 ct_103 rfl ?_
          have nx : ∀ u : Int32, u = nI (mNv B b x y z 40 s j) → nwF B b x y z (putI σ2 20 (pl (mR B) s j) (M 17) u) M (s + 1) (16 * s + (j + 1)) := fun u hu => by
            obtain ⟨⟨n1, n2, n3, n4⟩, n5, n6⟩ := hF2
            have ap : ∀ i, ax_mr i → i ≠ 17 → sgI (putI σ2 20 (pl (mR B) s j) (M 17) u) 20 (mR B) (M i) = sgI σ2 20 (mR B) (M i) := fun i hi n => by
              rw [gI_putI, if_neg (show ¬ (20 = 20 ∧ mR B = pl (mR B) s j ∧ M i = M 17) from fun z => rm_apart h.1 hi a17 n z.2.2)]
            refine ⟨⟨?_, ?_, ?_, ?_⟩, n5, fun k' j' hk' hj' hlt' => ?_⟩
            · rw [ap 11 (mr_of (by decide) (by decide) (by decide) (by decide)) (by decide)]; exact n1
            · rw [ap 12 (mr_of (by decide) (by decide) (by decide) (by decide)) (by decide)]; exact n2
            · rw [ap 13 (mr_of (by decide) (by decide) (by decide) (by decide)) (by decide)]; exact n3
            · rw [ap 14 (mr_of (by decide) (by decide) (by decide) (by decide)) (by decide)]; exact n4
            · rw [gI_putI]
              by_cases q : k' = s ∧ j' = j
              · obtain ⟨rfl, rfl⟩ := q
                rw [if_pos ⟨rfl, rfl, rfl⟩]; exact hu
              · rw [if_neg (show ¬ (20 = 20 ∧ 128 * mR B + 16 * k' + j' = pl (mR B) s j ∧ M 17 = M 17) from fun w => q (by
                  have w1 : 128 * mR B + 16 * k' + j' = 128 * mR B + 16 * s + j := w.2.1
                  omega))]
                exact n6 k' j' hk' hj' (by omega)
          have ge : 128 * mR B ≤ pl (mR B) s j := by
            show 128 * mR B ≤ 128 * mR B + 16 * s + j
            omega
          refine sg_119_316 (d := 6) ?_
          rw [cp, nI_1]
          refine ⟨fun q => ⟨i17, ?_⟩, fun q => ⟨i17, ?_⟩⟩
          · exact ih2 _ _ (nw_job hw2 ge) (hf2.row a17 _ (Or.inl rfl)) (nx 8 (by rw [ho, bI0 q]; rfl))
          · exact ih2 _ _ (nw_job hw2 ge) (hf2.row a17 _ (Or.inl rfl)) (nx 0 (by rw [ho, bI1 q]; rfl))
        have h16 : ∀ k, k < mN B → mS B 1 k * mS B 2 k ≤ 16 ∧ mS B 3 k < 2 ^ 16 := fun k hk => ⟨(mB_jobs hI hk).2.2.2, (mB_jobs hI hk).2.1⟩
        refine sg_119_245 (d := 6) ⟨fun _ => ⟨ax_kd h2.1.1, ?_⟩, fun q => absurd (nI_lt (b := 16) hj (by decide)) q⟩
        rw [h2.2.1.1, r1, r2, r3, c1, v1, v2, v3, g1, pk_mul]
        refine pk_lt s (mN B) (fun qs => ⟨ax_kd h2.1.1, i1, ax_kd h2.1.1, i2, ?_⟩) (fun qs => ⟨ax_kd h2.1.1, last false ?_⟩)
        · obtain ⟨e16, e3⟩ := h16 s qs
          refine pk_lt j (mS B 1 s * mS B 2 s) (fun qj => ⟨ax_kd h2.1.1, i3, ?_⟩) (fun qj => ⟨ax_kd h2.1.1, last false ?_⟩)
          · rw [bit_nI (by omega) (by omega)]
            refine ⟨fun qb => ⟨ax_kd h2.1.1, last true ?_⟩, fun qb => ⟨ax_kd h2.1.1, last false ?_⟩⟩
            · rw [mNv_0, if_pos ⟨qs, qj, bit_zero.mp qb⟩]; rfl
            · rw [mNv_0, if_neg (fun w => qb (bit_zero.mpr w.2.2))]; rfl
          · rw [mNv_0, if_neg (fun w => by omega)]; rfl
        · rw [mNv_0, if_neg (fun w => by omega)]; rfl
    refine sg_119_198 (d := 6) ⟨fun _ => ⟨ax_kd h1.1.1, ?_⟩, fun q => absurd (nI_lt (b := 8) hs (by decide)) q⟩
    have n5 := hF.2.1
    have nxt : ∀ u : Int64, u = lN (mNs B (s + 1)) → nwF B b x y z (putJ σ1 22 (mR B) (M 15) u) M (s + 1) (16 * s) := fun u hu => ⟨hF.1, (if_pos ⟨rfl, rfl, rfl⟩ : sgJ (putJ σ1 22 (mR B) (M 15) u) 22 (mR B) (M 15) = u).trans hu, hF.2.2⟩
    have en : mNs B (s + 1) = mNs B s + 256 ^ s * mS B 4 s := rfl
    have hlt64 : mNs B s < 2 ^ 64 := Nat.lt_of_lt_of_le hlt (Nat.pow_le_pow_right (by decide) (by omega))
    rw [g1, cR, n5, h1.2.1.1, r4, c4, v4]
    refine ⟨i15, ax_kd h1.1.1, pk_lt s (mN B) (fun qs => ⟨ax_kd h1.1.1, i4, i15, ?_⟩) (fun qs => ⟨i15, ?_⟩)⟩
    · refine jobs _ _ (nw_need hw) (hf.rowJ a15 _) (nxt _ ?_)
      have e1 : (8 : Int32) * nI s = nI (8 * s) := by rw [show (8 : Int32) = nI 8 from rfl, pk_mul]
      have hm : mS B 4 s * 2 ^ (8 * s) < 2 ^ 64 := by
        have h3 : mS B 4 s * 2 ^ (8 * s) < 256 * 2 ^ (8 * s) := Nat.mul_lt_mul_of_pos_right hs48 (Nat.two_pow_pos _)
        have h4 : 256 * 2 ^ (8 * s) ≤ 2 ^ 64 := by
          rw [show (256 : Nat) = 2 ^ 8 from rfl, ← Nat.pow_add]
          exact Nat.pow_le_pow_right (by decide) (by omega)
        omega
      rw [e1, nI_l (by omega), wb_shl _ (by omega), wb_or hlt64 hm, en]
      congr 1
      rw [show (256 : Nat) = 2 ^ 8 from rfl, ← Nat.pow_mul, Nat.mul_comm (mS B 4 s), Nat.or_comm, ← Nat.two_pow_add_eq_or_of_lt hlt, Nat.add_comm]
    · refine jobs _ _ (nw_need hw) (hf.rowJ a15 _) (nxt _ ?_)
      rw [en, hI.2.2.2.1 s 4 qs (by decide) (by decide), Nat.mul_zero, Nat.add_zero]
      exact (wb_or hlt64 (b := 0) (by decide)).trans (by rw [Nat.or_zero])
theorem ct_119 (h : ax_rm σ m M A) (hJ : mJJ A) {n : Nat} (hT : mTn A n) (hn : n < 1000) (l1 l2 l3 l4 : Int32) : ax_ok e0 mo 7 119 [aR m, aI l1, aI l2, aI l3, aI l4] σ (rf_an m M σ (oPush A l1 l2 l3 l4)) := by
  have hI := hJ.1.1
  have hN := hI.1.1
  have hR := hI.1.2
  have hgl := mGo_le hI
  unfold oPush
  have mid : ∀ b : Bool, b = (inI l2 && inI l3 && inI l4) → ax_wp e0 mo 6 85 (0, ax_entry 85 [aI l1, aI 0, aI 3], []) σ (ax_ct (fun v σ3 => ax_wp e0 mo 7 119 (45, [aR m, aI l1, aI l2, aI l3, aI l4, aI (bI b), aU, aU, aU, aU], ax_push v [aR m]) σ3 (ax_ct (rf_an m M σ (bif inB l1 4 then (bif inI l2 && inI l3 && inI l4 then (bif pushB A then ((0, nI (mR A)), mPush A l1.toNatClampNeg l2.toNatClampNeg l3.toNatClampNeg l4.toNatClampNeg) else ((3, 0), A)) else ((2, 0), A)) else ((1, 0), A))) (fun _ _ => False))) (fun E σ3 => ax_exc 119 42 (ax_ct (rf_an m M σ (bif inB l1 4 then (bif inI l2 && inI l3 && inI l4 then (bif pushB A then ((0, nI (mR A)), mPush A l1.toNatClampNeg l2.toNatClampNeg l3.toNatClampNeg l4.toNatClampNeg) else ((3, 0), A)) else ((2, 0), A)) else ((1, 0), A))) (fun _ _ => False)) E σ3)) := fun b hb => by
    rw [← hb]
    refine ax_use0 (ct_85 _ _ _) rfl ?_
    show ax_wp e0 mo 7 119 (45, [aR m, aI l1, aI l2, aI l3, aI l4, aI (bI b), aU, aU, aU, aU], [aI (bI (inB l1 4)), aR m]) σ _
    have last : ∀ c : Bool, c = pushB A → ax_wp e0 mo 6 88 (0, ax_entry 88 [aR m, aI (bI (inB l1 4)), aI (bI b), aI (bI c)], []) σ (ax_ct (fun v σ3 => ax_wp e0 mo 7 119 (80, [aR m, aI l1, aI l2, aI l3, aI l4, aI (bI b), aU, aU, aU, aU], ax_push v []) σ3 (ax_ct (rf_an m M σ (bif inB l1 4 then (bif b then (bif pushB A then ((0, nI (mR A)), mPush A l1.toNatClampNeg l2.toNatClampNeg l3.toNatClampNeg l4.toNatClampNeg) else ((3, 0), A)) else ((2, 0), A)) else ((1, 0), A))) (fun _ _ => False))) (fun E σ3 => ax_exc 119 77 (ax_ct (rf_an m M σ (bif inB l1 4 then (bif b then (bif pushB A then ((0, nI (mR A)), mPush A l1.toNatClampNeg l2.toNatClampNeg l3.toNatClampNeg l4.toNatClampNeg) else ((3, 0), A)) else ((2, 0), A)) else ((1, 0), A))) (fun _ _ => False)) E σ3)) := fun c hc => by
      rw [← hc]
      refine ax_use (as_88 h (inB l1 4) b c) rfl fun w σ2 hw => ?_
      obtain ⟨rfl, h2, f2, t2⟩ := hw
      cases e : inB l1 4 with
      | false =>
        rw [e] at t2
        exact sg_119_80 (d := 6) ⟨fun _ => ⟨fun z => (Nat.one_ne_zero z).elim, t2, h2, f2⟩, fun z => absurd rfl z⟩
      | true =>
        rw [e] at t2
        cases b with
        | false => exact sg_119_80 (d := 6) ⟨fun _ => ⟨fun z => (Nat.succ_ne_zero 1 z).elim, t2, h2, f2⟩, fun z => absurd rfl z⟩
        | true =>
          cases c with
          | false => exact sg_119_80 (d := 6) ⟨fun _ => ⟨fun z => (Nat.succ_ne_zero 2 z).elim, t2, h2, f2⟩, fun z => absurd rfl z⟩
          | true =>
            have hb := hb.symm
            simp only [Bool.and_eq_true] at hb
            obtain ⟨b, hb4, rfl⟩ := inB_yes e (by decide)
            obtain ⟨x, hx, rfl⟩ := inI_yes hb.1.1
            obtain ⟨y, hy, rfl⟩ := inI_yes hb.1.2
            obtain ⟨z, hz, rfl⟩ := inI_yes hb.2
            have cb : (nI b).toNatClampNeg = b := nI_clamp (by omega)
            have cx : (nI x).toNatClampNeg = x := nI_clamp (by omega)
            have cy : (nI y).toNatClampNeg = y := nI_clamp (by omega)
            have cz : (nI z).toNatClampNeg = z := nI_clamp (by omega)
            rw [cb, cx, cy, cz]
            have hp := hc.symm
            unfold pushB at hp
            simp only [Bool.and_eq_true, Nat.blt_eq] at hp
            refine sg_119_80 (d := 6) ⟨fun z => absurd z (by decide), fun _ => ?_⟩
            show ax_wp e0 mo 7 119 (88, [aR m, aI (nI b), aI (nI x), aI (nI y), aI (nI z), aI 1, aI 0, aU, aU, aU], []) σ2 (ax_ct (rf_an m M σ ((0, nI (mR A)), mPush A b x y z)) (fun _ _ => False))
            refine ax_down (N := mR A) (fun i => ∀ σ3, ax_rm σ3 m M (mOld A b i) → ax_mf m M σ2 σ3 → ax_wp e0 mo 7 119 (88, [aR m, aI (nI b), aI (nI x), aI (nI y), aI (nI z), aI 1, aI (nI i), aU, aU, aU], []) σ3 _) ?_ (fun i hi ih => ?_) 0 (Nat.zero_le _) σ2 h2 (ax_mf.refl _ _ _)
            · intro σ3 h3 f3
              obtain ⟨o1, o2, o3, o4⟩ := mOld_ok hJ hT b (mR A) (Nat.le_refl _)
              have eR : mR (mOld A b (mR A)) = mR A := o4 10 0 0 0 (by decide) (by decide) (by decide)
              have eN : mN (mOld A b (mR A)) = mN A := o4 0 0 0 0 (by decide) (by decide) (by decide)
              have oI := o1.1.1
              have r11 := rm_run h3 oI (f := 11) (by decide) (show mR A < 80 by omega)
              have r12 := rm_run h3 oI (f := 12) (by decide) (show mR A < 80 by omega)
              have r13 := rm_run h3 oI (f := 13) (by decide) (show mR A < 80 by omega)
              have r14 := rm_run h3 oI (f := 14) (by decide) (show mR A < 80 by omega)
              have a15 : ax_mr 15 := mr_of (by decide) (by decide) (by decide) (by decide)
              obtain ⟨g1, g2⟩ := rm_row h3 a15
              have i15 : ax_in σ3 22 (M 15) (nI (mR A)) := ax_in_nI (n := 80) g2 (by omega) (by decide)
              have cR : (nI (mR A)).toNatClampNeg = mR A := nI_clamp (by omega)
              have v10 : sgI σ3 7 10 m = nI (mR A) := by rw [h3.2.1.2.1, eR]
              have ein : (10000 : Int32) * nI x + 100 * nI y + nI z = nI (10000 * x + 100 * y + z) := by rw [show (10000 : Int32) = nI 10000 from rfl, show (100 : Int32) = nI 100 from rfl, pk_mul, pk_mul, nI_add, nI_add]
              refine sg_119_88 (d := 6) ⟨ax_kd h3.1.1, ?_⟩
              rw [v10, cR, r11.1, r12.1, r13.1, r14.1, g1, h3.2.1.1, eN, ein]
              refine ⟨fun w => absurd w (nI_nlt (Nat.le_refl _) (by omega)), fun _ => ⟨ax_kd h3.1.1, ax_kd h3.1.1, r11.2.1, ax_kd h3.1.1, r12.2.1, ax_kd h3.1.1, r13.2.1, ax_kd h3.1.1, ax_kd h3.1.1, r14.2.1, ax_kd h3.1.1, i15, ?_⟩⟩
              have mk : ∀ i, i = 11 ∨ i = 12 ∨ i = 13 ∨ i = 14 → ax_mr i := fun i hi => by rcases hi with rfl | rfl | rfl | rfl <;> exact mr_of (by decide) (by decide) (by decide) (by decide)
              have ne : ∀ i i', (i = 11 ∨ i = 12 ∨ i = 13 ∨ i = 14) → (i' = 11 ∨ i' = 12 ∨ i' = 13 ∨ i' = 14) → i ≠ i' → ∀ (τ : SG) (v : Int32), sgI (putI τ 20 (mR A) (M i') v) 20 (mR A) (M i) = sgI τ 20 (mR A) (M i) := fun i i' hi hi' hne τ v => by
                rw [gI_putI, if_neg (show ¬ (20 = 20 ∧ mR A = mR A ∧ M i = M i') from fun z => rm_apart h3.1 (mk i hi) (mk i' hi') hne z.2.2)]
              have at' : ∀ i (τ : SG) (v : Int32), sgI (putI τ 20 (mR A) (M i) v) 20 (mR A) (M i) = v := fun i τ v => if_pos ⟨rfl, rfl, rfl⟩
              have hFF : nwF (mOld A b (mR A)) b x y z (putJ (putI (putI (putI (putI σ3 20 (mR A) (M 11) 7) 20 (mR A) (M 12) (nI b)) 20 (mR A) (M 13) (nI (10000 * x + 100 * y + z))) 20 (mR A) (M 14) (nI (mN A))) 22 (mR A) (M 15) (Int64.ofNat 0)) M 0 0 := by
                unfold nwF
                rw [eR, eN]
                refine ⟨⟨?_, ?_, ?_, ?_⟩, if_pos ⟨rfl, rfl, rfl⟩, fun k j _ _ w => absurd w (Nat.not_lt_zero _)⟩
                · rw [gI_putJ, ne 11 14 (by decide) (by decide) (by decide), ne 11 13 (by decide) (by decide) (by decide), ne 11 12 (by decide) (by decide) (by decide), at']
                · rw [gI_putJ, ne 12 14 (by decide) (by decide) (by decide), ne 12 13 (by decide) (by decide) (by decide), at']
                · rw [gI_putJ, ne 13 14 (by decide) (by decide) (by decide), at']
                · rw [gI_putJ, at']
              have hnw : ax_nw σ3 (putJ (putI (putI (putI (putI σ3 20 (mR A) (M 11) 7) 20 (mR A) (M 12) (nI b)) 20 (mR A) (M 13) (nI (10000 * x + 100 * y + z))) 20 (mR A) (M 14) (nI (mN A))) 22 (mR A) (M 15) (Int64.ofNat 0)) M (mR (mOld A b (mR A))) := by
                rw [eR]
                exact nw_need (nw_run (nw_run (nw_run (nw_run (nw_refl σ3 M (mR A)) (i := 11) (by decide)) (i := 12) (by decide)) (i := 13) (by decide)) (i := 14) (by decide))
              have hmf : ax_mf m M σ3 (putJ (putI (putI (putI (putI σ3 20 (mR A) (M 11) 7) 20 (mR A) (M 12) (nI b)) 20 (mR A) (M 13) (nI (10000 * x + 100 * y + z))) 20 (mR A) (M 14) (nI (mN A))) 22 (mR A) (M 15) (Int64.ofNat 0)) := (((((ax_mf.refl m M σ3).row (mk 11 (by decide)) _ (Or.inl rfl)).row (mk 12 (by decide)) _ (Or.inl rfl)).row (mk 13 (by decide)) _ (Or.inl rfl)).row (mk 14 (by decide)) _ (Or.inl rfl)).rowJ a15 _
              have nl := new_loop (e0 := e0) (mo := mo) (l1 := nI b) (l2 := nI x) (l3 := nI y) (l4 := nI z) (l5 := 1) (Q := ax_ct (rf_an m M σ ((0, nI (mR A)), mPush A b x y z)) (fun _ _ => False)) h3 o1 o2 hn (by omega) (by omega) (by omega) hb4 hx hy hz hnw hmf hFF (fun σ5 h5 f5 => ⟨fun _ => by rw [eR], (f3.trans f5).2.trans t2, by
                rw [eR] at h5
                exact h5, f2.trans (f3.trans f5).1⟩)
              rw [eR] at nl
              exact nl
            · intro σ3 h3 f3
              obtain ⟨o1, o2, o3, o4⟩ := mOld_ok hJ hT b i (by omega)
              have eR : mR (mOld A b i) = mR A := o4 10 0 0 0 (by decide) (by decide) (by decide)
              have oI := o1.1.1
              obtain ⟨u1, u2, u3⟩ := rm_run h3 oI (f := 11) (by decide) (show i < 80 by omega)
              obtain ⟨w1, w2, w3⟩ := rm_run h3 oI (f := 12) (by decide) (show i < 80 by omega)
              have hv := h3.2.2.2.1 i (by rw [eR]; exact hi)
              have hst := oI.2.2.2.2.1 i (by rw [eR]; exact hi)
              have e : mOld A b (i + 1) = bif Nat.beq (mU (mOld A b i) 11 i) 7 && Nat.beq (mU (mOld A b i) 12 i) b then mFol (mCan (mOld A b i) i) i else mOld A b i := rfl
              rw [e] at ih
              refine sg_119_88 (d := 6) ⟨ax_kd h3.1.1, ?_⟩
              rw [h3.2.1.2.1, eR, u1, u3, hv.1, w1, hv.2.1]
              refine ⟨fun _ => ⟨ax_kd h3.1.1, u2, pk_eq (mU (mOld A b i) 11 i) 7 (fun q7 => ⟨ax_kd h3.1.1, w2, pk_eq (mU (mOld A b i) 12 i) b (fun qb => ⟨ax_kd h3.1.1, ?_⟩) (fun qb => ?_)⟩) (fun q7 => ?_)⟩, fun w => absurd (nI_lt hi (by omega)) w⟩
              · refine ax_use (ct_118 h3 o1 (mTn_T o2 (by omega)) (by rw [eR]; exact hi) q7) rfl fun w σ4 hw4 => ?_
                obtain ⟨rfl, h4, f4⟩ := hw4
                refine sg_119_126 (d := 6) ?_
                rw [nI_1]
                rw [q7, qb, Nat.beq_refl, Nat.beq_refl] at ih
                exact ih σ4 h4 (f3.trans f4)
              · rw [nI_1]
                rw [nb_ne qb, Bool.and_false] at ih
                exact ih σ3 h3 f3
              · rw [nI_1]
                rw [nb_ne q7, Bool.false_and] at ih
                exact ih σ3 h3 f3
    refine sg_119_45 (d := 6) ⟨ax_kd h.1.1, ?_⟩
    rw [h.2.1.1]
    refine ⟨fun q => ⟨ax_kd h.1.1, ax_use0 (ct_91 h hI) rfl ?_⟩, fun q => ⟨ax_kd h.1.1, last false ?_⟩⟩
    · have q0 := (pos_iff (by omega)).mp q
      refine sg_119_58 (d := 6) (pk_lt (mGo A) 6 (fun qg => ⟨ax_kd h.1.1, ?_⟩) (fun qg => ⟨ax_kd h.1.1, last false ?_⟩))
      · rw [h.2.1.2.1]
        refine pk_lt (mR A) 80 (fun qr => ⟨ax_kd h.1.1, last true ?_⟩) (fun qr => ⟨ax_kd h.1.1, last false ?_⟩)
        · unfold pushB; rw [Nat.blt_eq.mpr q0, Nat.blt_eq.mpr qg, Nat.blt_eq.mpr qr]; rfl
        · unfold pushB; rw [not_true_b (b := Nat.blt (mR A) 80) (fun w => absurd (Nat.blt_eq.mp w) (by omega)), Bool.and_false]
      · unfold pushB; rw [not_true_b (b := Nat.blt (mGo A) 6) (fun w => absurd (Nat.blt_eq.mp w) (by omega)), Bool.and_false]; rfl
    · unfold pushB; rw [not_true_b (b := Nat.blt 0 (mN A)) (fun w => q ((pos_iff (by omega)).mpr (Nat.blt_eq.mp w)))]; rfl
  refine sg_119_0 (d := 6) ?_
  refine ax_use0 (ct_85 _ _ _) rfl ?_
  refine sg_119_7 (d := 6) ⟨fun q => mid false ?_, fun q => ?_⟩
  · rw [show inI l2 = false from bI0 q]; rfl
  · refine ax_use0 (ct_85 _ _ _) rfl ?_
    refine sg_119_17 (d := 6) ⟨fun q2 => mid false ?_, fun q2 => ?_⟩
    · rw [show inI l3 = false from bI0 q2, Bool.and_false]; rfl
    · refine ax_use0 (ct_85 _ _ _) rfl ?_
      refine sg_119_28 (d := 6) ⟨fun q3 => mid false ?_, fun q3 => mid true ?_⟩
      · rw [show inI l4 = false from bI0 q3, Bool.and_false]
      · rw [show inI l2 = true from bI1 q, show inI l3 = true from bI1 q2, show inI l4 = true from bI1 q3]; rfl
end
end AXNA
