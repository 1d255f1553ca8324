/-! The class's reads that may throw; what a public call leaves. -/
section AXRC
theorem bc_n (x : Nat) : ∀ n, ax_bc x n = ax_n (mBit x) n := by
  intro n
  induction n with
  | zero => rfl
  | succ n ih =>
    show ax_bc x n + x / 2 ^ n % 2 = ax_n (mBit x) n + (if mBit x n then 1 else 0)
    rw [ih, mBit_01]
theorem mPass_sub {A : MS} {a j : Nat} (h : mBit a j = true) : ∀ i, mBit (mPass A a i) j = true := by
  intro i
  induction i with
  | zero => exact h
  | succ i ih =>
    show mBit (bif mBit (mPass A a i) i then mPass A a i ||| mS A 4 i else mPass A a i) j = true
    cases mBit (mPass A a i) i
    · exact ih
    · show mBit (mPass A a i ||| mS A 4 i) j = true
      rw [mBit_test, Nat.testBit_or, ← mBit_test, ih, Bool.true_or]
theorem mPass_ltN {A : MS} {N : Nat} (hb : ∀ i, i < mN A → mS A 4 i < 2 ^ N) {a : Nat} (ha : a < 2 ^ N) : ∀ i, i ≤ mN A → mPass A a i < 2 ^ N := by
  intro i
  induction i with
  | zero => intro _; exact ha
  | succ i ih =>
    intro hi
    have h1 := ih (by omega)
    show (bif mBit (mPass A a i) i then mPass A a i ||| mS A 4 i else mPass A a i) < 2 ^ N
    cases mBit (mPass A a i) i
    · exact h1
    · exact Nat.or_lt_two_pow h1 (hb i (by omega))
theorem mTurn_ltN {A : MS} {N : Nat} (hb : ∀ i, i < mN A → mS A 4 i < 2 ^ N) {a : Nat} (ha : a < 2 ^ N) : ∀ t, mTurn A a t < 2 ^ N := by
  intro t
  induction t with
  | zero => exact ha
  | succ t ih => exact mPass_ltN hb ih (mN A) (Nat.le_refl _)
theorem mTurn_stay {A : MS} {a t : Nat} (h : mTurn A a (t + 1) = mTurn A a t) : ∀ s, mTurn A a (t + s) = mTurn A a t := by
  intro s
  induction s with
  | zero => rfl
  | succ s ih =>
    show mPass A (mTurn A a (t + s)) (mN A) = _
    rw [ih]
    exact h
theorem bits_lt {x y N : Nat} (hx : x < 2 ^ N) (hy : y < 2 ^ N) (hs : ∀ j, mBit x j = true → mBit y j = true) (hne : y ≠ x) : ax_bc x N < ax_bc y N := by
  rw [bc_n, bc_n]
  have hex : ∃ j, mBit x j = false ∧ mBit y j = true := by
    refine Classical.byContradiction fun no => hne (Nat.eq_of_testBit_eq fun j => ?_)
    rw [← mBit_test, ← mBit_test]
    cases q : mBit x j with
    | true => exact hs j q
    | false => exact not_true_b fun w => no ⟨j, q, w⟩
  obtain ⟨j, h1, h2⟩ := hex
  have hj : j < N := by
    rcases Nat.lt_or_ge j N with q | q
    · exact q
    · rw [bit_high hy q] at h2; cases h2
  exact ax_n_lt hj (fun k _ z => hs k z) h1 h2
theorem mTurn_end {A : MS} {N : Nat} (hb : ∀ i, i < mN A → mS A 4 i < 2 ^ N) {a : Nat} (ha : a < 2 ^ N) : ∀ s, mTurn A a (N + s) = mTurn A a N := by
  have hex : ∃ t, t ≤ N ∧ mTurn A a (t + 1) = mTurn A a t := by
    refine Classical.byContradiction fun no => ?_
    have grow : ∀ t, t ≤ N + 1 → t ≤ ax_bc (mTurn A a t) N := by
      intro t
      induction t with
      | zero => intro _; exact Nat.zero_le _
      | succ t ih =>
        intro ht
        have h1 := ih (by omega)
        have h2 := bits_lt (mTurn_ltN hb ha t) (mTurn_ltN hb ha (t + 1)) (fun j z => mPass_sub z _) (fun z => no ⟨t, by omega, z⟩)
        omega
    have h1 := grow (N + 1) (Nat.le_refl _)
    have h2 := ax_bc_le (mTurn A a (N + 1)) N
    omega
  obtain ⟨t, ht, e⟩ := hex
  intro s
  have e1 := mTurn_stay e (N + s - t)
  have e2 := mTurn_stay e (N - t)
  rw [show t + (N + s - t) = N + s by omega] at e1
  rw [show t + (N - t) = N by omega] at e2
  rw [e1, e2]
/-- what the class may write -/
def cW : Nat → Nat → Nat → Prop := fun k _ _ => k ≠ 7 ∧ k ≠ 20 ∧ k ≠ 21 ∧ k ≠ 22 ∧ k ≠ 25
/-- the lists' rows, together -/
def lRho (L : LY) : Nat := lC L 0 + lC L 1 + lC L 2 + lC L 3
def cl_fr (σ : SG) (L : LY) (σ2 : SG) (L' : LY) (c u : Nat) : Prop := ax_F cW σ σ2 ∧ sgZ σ2 + lRho L ≤ sgZ σ + lRho L' + c ∧ sgU σ2 + 4 * lRho L ≤ sgU σ + 4 * lRho L' + u
theorem fr_refl (σ : SG) (L : LY) : cl_fr σ L σ L 0 0 := ⟨ax_F.refl _ _, Nat.le_refl _, Nat.le_refl _⟩
theorem fr_trans {σ σ1 σ2 : SG} {L L1 L2 : LY} {c u c' u' : Nat} (h1 : cl_fr σ L σ1 L1 c u) (h2 : cl_fr σ1 L1 σ2 L2 c' u') : cl_fr σ L σ2 L2 (c + c') (u + u') := by
  obtain ⟨a1, a2, a3⟩ := h1
  obtain ⟨b1, b2, b3⟩ := h2
  exact ⟨a1.trans b1, by omega, by omega⟩
theorem fr_le {σ σ1 : SG} {L L1 : LY} {c u c' u' : Nat} (h1 : cl_fr σ L σ1 L1 c u) (hc : c ≤ c') (hu : u ≤ u') : cl_fr σ L σ1 L1 c' u' := ⟨h1.1, Nat.le_trans h1.2.1 (by omega), Nat.le_trans h1.2.2 (by omega)⟩
theorem fr_I {σ σ1 : SG} {L L1 : LY} {c u k i q : Nat} {v : Int32} (h : cl_fr σ L σ1 L1 c u) (hk : k ≠ 7 ∧ k ≠ 20 ∧ k ≠ 21 ∧ k ≠ 22 ∧ k ≠ 25) : cl_fr σ L (putI σ1 k i q v) L1 c u := ⟨h.1.putI fun _ => hk, h.2⟩
theorem fr_R {σ σ1 : SG} {L L1 : LY} {c u k i q v : Nat} (h : cl_fr σ L σ1 L1 c u) (hk : k ≠ 7 ∧ k ≠ 20 ∧ k ≠ 21 ∧ k ≠ 22 ∧ k ≠ 25) : cl_fr σ L (putR σ1 k i q v) L1 c u := ⟨h.1.putR fun _ => hk, h.2⟩
/-- what a public call of the class leaves; X: the exceptions' kinds by their codes -/
def cl_po (e0 : Nat) (σ : SG) (x : Nat) (L : LY) (X : List Nat) (o : OC) : Res → SG → Prop := ax_ct (fun v σ2 => o.1.1 = 0 ∧ v = aI o.1.2 ∧ ∃ L', ax_rc e0 σ2 x L' o.2 ∧ cl_fr σ L σ2 L' 390 6000) (fun E σ2 => 1 ≤ o.1.1 ∧ E = X.getD (o.1.1 - 1) 9 ∧ σ2 = thrC σ)
section
variable {e0 mo : Nat} {σ σ' : SG} {x : Nat} {L : LY} {A A' : MS} {r k j p w : Nat}
theorem po_rd (h : ax_rc e0 σ x L A) {X : List Nat} {o : OC} {v : AV} (h0 : o.1.1 = 0) (hv : v = aI o.1.2) (h2 : o.2 = A) : cl_po e0 σ x L X o (.inl v) σ := ⟨h0, hv, L, by rw [h2]; exact h, fr_le (fr_refl σ L) (by decide) (by decide)⟩
/-- a check that may throw the exception E -/
def cl_ck (e0 mo d y : Nat) (as : List AV) (σ : SG) (b : Bool) (E : Nat) (P : AV → Prop) : Prop := ax_wp e0 mo d y (0, ax_entry y as, []) σ (ax_ct (fun v σ2 => b = true ∧ P v ∧ σ2 = σ) (fun E' σ2 => b = false ∧ E' = E ∧ σ2 = thrC σ))
theorem ck_use {d h y E : Nat} {as : List AV} {b : Bool} {P : AV → Prop} {K : AV → SG → Prop} {X : Nat → SG → Prop} (c : cl_ck e0 mo h y as σ b E P) (hd : Nat.ble h d = true) (k : ∀ v, b = true → P v → K v σ) (kx : b = false → X E (thrC σ)) : ax_wp e0 mo d y (0, ax_entry y as, []) σ (ax_ct K X) := by
  refine ax_useX c hd (fun v σ2 hv => ?_) (fun E' σ2 hv => ?_)
  · obtain ⟨h1, h2, rfl⟩ := hv
    exact k v h1 h2
  · obtain ⟨h1, rfl, rfl⟩ := hv
    exact kx h1
theorem xf (h : ax_rc e0 σ x L A) : sgK σ x = (6, 5) ∧ sgR σ 6 0 x = lF L 0 ∧ sgR σ 6 1 x = lF L 1 ∧ sgR σ 6 2 x = lF L 2 ∧ sgR σ 6 3 x = lF L 3 ∧ sgR σ 6 4 x = lF L 4 ∧ sgK σ (lF L 3) = (24, 4) ∧ sgK σ (lF L 4) = (0, 1) ∧ sgR σ 0 0 (lF L 4) = lF L 5 := by
  obtain ⟨a1, ⟨b0, b1, b2, b3, b4⟩, a3, a4, a5⟩ := h.1
  exact ⟨a1, b0, b1, b2, b3, b4, a3, a4, a5⟩
theorem inB_lt {x : Int32} {n : Nat} (hn : n < 2 ^ 31) (h0 : ¬ x < 0) (h1 : x < nI n) : inB x n = true := by
  cases q : inB x n with
  | true => rfl
  | false =>
    rcases inB_no q hn with z | z
    · exact absurd z h0
    · exact absurd h1 (Int32.not_lt.mpr z)
theorem inB_ge {x : Int32} {n : Nat} (hn : n < 2 ^ 31) (h1 : ¬ x < nI n) : inB x n = false := by
  cases q : inB x n with
  | false => rfl
  | true =>
    obtain ⟨i, hi, rfl⟩ := inB_yes q hn
    exact absurd (nI_lt hi hn) h1
theorem inB_neg {x : Int32} {n : Nat} (hn : n < 2 ^ 31) (h1 : x < 0) : inB x n = false := by
  cases q : inB x n with
  | false => rfl
  | true =>
    obtain ⟨i, hi, rfl⟩ := inB_yes q hn
    exact absurd h1 (nI_pos (by omega))
theorem ct_61 (h : ax_rc e0 σ x L A) (hI : mB A) (v : Int32) : cl_ck e0 mo 6 61 [aR x, aI v] σ (inB v (mN A)) 0 (fun u => u = aR (gS L v.toNatClampNeg)) := by
  have hN := hI.1.1
  obtain ⟨f0, f1, f2, f3, f4, f5, f6, f7, f8⟩ := xf h
  have li := h.2.1.1
  refine sg_61_0 (d := 5) ⟨fun z => ⟨by decide, inB_neg (by omega) z, rfl, rfl⟩, fun z => ⟨ax_kd f0, ?_⟩⟩
  rw [f1]
  refine ⟨ax_kd li.1, ax_use0 (ct_157 li) rfl ?_⟩
  refine sg_61_12 (d := 5) ⟨fun y => ⟨ax_kd f0, ?_⟩, fun y => ⟨by decide, inB_ge (by omega) y, rfl, rfl⟩⟩
  have e := inB_lt (by omega) z y
  obtain ⟨i, hi, rfl⟩ := inB_yes e (by omega)
  have ci : (nI i).toNatClampNeg = i := nI_clamp (by omega)
  rw [f1]
  refine ⟨ax_kd li.1, ax_use0 (ct_160 li hi) rfl ?_⟩
  refine sg_61_34 (d := 5) ⟨Or.inr (ax_kd (h.2.2.1 i hi).1), e, ?_, rfl⟩
  rw [ci]
theorem ct_62 (h : ax_rc e0 σ x L A) (hI : mB A) (v : Int32) : cl_ck e0 mo 6 62 [aR x, aI v] σ (inB v (mR A)) 0 (fun u => u = aR (gU L 0 v.toNatClampNeg)) := by
  have hR := hI.1.2
  obtain ⟨f0, f1, f2, f3, f4, f5, f6, f7, f8⟩ := xf h
  have li := h.2.1.2.1
  refine sg_62_0 (d := 5) ⟨fun z => ⟨by decide, inB_neg (by omega) z, rfl, rfl⟩, fun z => ⟨ax_kd f0, ?_⟩⟩
  rw [f2]
  refine ⟨ax_kd li.1, ax_use0 (ct_157 li) rfl ?_⟩
  refine sg_62_12 (d := 5) ⟨fun y => ⟨ax_kd f0, ?_⟩, fun y => ⟨by decide, inB_ge (by omega) y, rfl, rfl⟩⟩
  have e := inB_lt (by omega) z y
  obtain ⟨i, hi, rfl⟩ := inB_yes e (by omega)
  have ci : (nI i).toNatClampNeg = i := nI_clamp (by omega)
  rw [f2]
  refine ⟨ax_kd li.1, ax_use0 (ct_160 li hi) rfl ?_⟩
  refine sg_62_34 (d := 5) ⟨Or.inr (ax_kd (ru_at h hi).1), e, ?_, rfl⟩
  rw [ci]
theorem ct_63 (h : ax_rc e0 σ x L A) (hI : mB A) (v w : Int32) : cl_ck e0 mo 7 63 [aR x, aI v, aI w] σ (stgB A v w) 0 (fun u => u = aR (gP L 0 v.toNatClampNeg w.toNatClampNeg)) := by
  have hR := hI.1.2
  unfold stgB
  refine sg_63_0 (d := 6) ⟨ax_kd (xf h).1, ?_⟩
  refine ck_use (ct_62 h hI v) rfl (fun u e hu => ?_) (fun e => ?_)
  · subst hu
    obtain ⟨r, hr, rfl⟩ := inB_yes e (by omega)
    have cr : (nI r).toNatClampNeg = r := nI_clamp (by omega)
    have h8 := mU16_le hI hr
    obtain ⟨a1, a2, a3, a4, a5, a6, a7, a8⟩ := ru_at h hr
    rw [cr]
    rw [e]
    refine sg_63_5 (d := 6) ⟨ax_kd a1, fun z => ⟨by decide, inB_neg (by omega) z, rfl, rfl⟩, fun z => ?_⟩
    rw [a5]
    refine ⟨ax_kd a8, ax_use0 (ct_157 a7) rfl ?_⟩
    refine sg_63_18 (d := 6) ⟨fun y => ⟨ax_kd a8, ?_⟩, fun y => ⟨by decide, inB_ge (by omega) y, rfl, rfl⟩⟩
    have e2 := inB_lt (by omega) z y
    obtain ⟨i, hi, rfl⟩ := inB_yes e2 (by omega)
    have ci : (nI i).toNatClampNeg = i := nI_clamp (by omega)
    refine ax_use0 (ct_160 a7 hi) rfl ?_
    refine sg_63_37 (d := 6) ⟨Or.inr (ax_kd (pt_at h hr hi).1), e2, ?_, rfl⟩
    rw [ci]
  · rw [e]
    exact ⟨rfl, rfl, rfl⟩
theorem stg8 (h : mJI A) (hI : mB A) {r : Nat} (hr : r < mR A) (w : Int32) (j : Nat) : (inB w 8 && !(Nat.beq (mJ A 0 r w.toNatClampNeg j) 8)) = (inB w (mU A 16 r) && !(Nat.beq (mJ A 0 r w.toNatClampNeg j) 8)) := by
  have h8 := mU16_le hI hr
  have hn : mU A 16 r < 2 ^ 31 := by omega
  rw [Bool.eq_iff_iff, Bool.and_eq_true, Bool.and_eq_true]
  constructor
  · rintro ⟨a, b⟩
    refine ⟨?_, b⟩
    obtain ⟨k, hk, rfl⟩ := inB_yes a (by decide)
    have ck : (nI k).toNatClampNeg = k := nI_clamp (by omega)
    rw [ck] at b
    rcases Nat.lt_or_ge k (mU A 16 r) with q | q
    · exact inB_nI q hn
    · rw [h.1 r k j hr q, Nat.beq_refl] at b
      exact absurd b (by decide)
  · rintro ⟨a, b⟩
    refine ⟨?_, b⟩
    obtain ⟨k, hk, rfl⟩ := inB_yes a hn
    exact inB_nI (Nat.lt_of_lt_of_le hk h8) (by decide)
theorem jobB_eq (h : mJI A) (v w z : Int32) (hI : mB A) : jobB A v w z = (stgB A v w && inB z 16 && !(Nat.beq (mJ A 0 v.toNatClampNeg w.toNatClampNeg z.toNatClampNeg) 8)) := by
  have hR := hI.1.2
  unfold jobB stgB
  by_cases e1 : inB v (mR A) = true
  · obtain ⟨r, hr, hv⟩ := inB_yes e1 (by omega)
    have cr : v.toNatClampNeg = r := by rw [hv]; exact nI_clamp (by omega)
    have e := stg8 h hI hr w z.toNatClampNeg
    rw [cr, e1, Bool.true_and, Bool.true_and, Bool.and_assoc, Bool.and_assoc, Bool.and_comm (inB z 16), ← Bool.and_assoc, ← Bool.and_assoc, e]
  · rw [not_true_b e1, Bool.false_and, Bool.false_and, Bool.false_and, Bool.false_and, Bool.false_and, Bool.false_and]
theorem ct_64 (h : ax_rc e0 σ x L A) (hI : mB A) (hJ : mJI A) (v w z : Int32) : cl_ck e0 mo 8 64 [aR x, aI v, aI w, aI z] σ (jobB A v w z) 0 (fun u => u = aR (gJ L v.toNatClampNeg w.toNatClampNeg z.toNatClampNeg)) := by
  have hR := hI.1.2
  rw [jobB_eq hJ v w z hI]
  refine sg_64_0 (d := 7) ⟨ax_kd (xf h).1, ?_⟩
  refine ck_use (ct_63 h hI v w) rfl (fun u e hu => ?_) (fun e => ?_)
  · subst hu
    obtain ⟨r, k, rfl, rfl, hr, hk, hk8, cr, ck⟩ := stgB_yes e hI
    obtain ⟨a1, a2, a3, a4, b1, b2, b3, c1⟩ := pt_at h hr hk
    rw [cr, ck, e]
    refine sg_64_6 (d := 7) ⟨ax_kd a1, fun q => ⟨by decide, ?_, rfl, rfl⟩, fun q => ?_⟩
    · rw [inB_neg (by decide) q]; rfl
    · rw [a4, c1]
      refine ⟨⟨by decide, by decide⟩, fun y => ?_, fun y => ⟨by decide, ?_, rfl, rfl⟩⟩
      · have e2 := inB_lt (n := 16) (by decide) q y
        obtain ⟨j, hj, rfl⟩ := inB_yes e2 (by decide)
        have cj : (nI j).toNatClampNeg = j := nI_clamp (by omega)
        have ij : ax_in σ 24 (gP L 2 r k) (nI j) := ax_in_nI c1 hj (by decide)
        rw [cj, e2]
        rcases sl_at h hI hr hk hj with ⟨z1, y1⟩ | ⟨z1, y1, nz, kj, hj1⟩
        · rw [y1, z1]
          exact ⟨ij, fun _ => ⟨by decide, rfl, rfl, rfl⟩, fun q => absurd rfl q⟩
        · rw [y1, nb_ne (show mJ A 0 r k j ≠ 8 by omega)]
          exact ⟨ij, fun q => absurd q nz, fun _ => ⟨ij, rfl, rfl, rfl⟩⟩
      · rw [inB_ge (n := 16) (by decide) y]; rfl
  · rw [e]
    exact ⟨rfl, rfl, rfl⟩
theorem ct_71 (h : ax_rc e0 σ x L A) (hI : mB A) : ax_ok e0 mo 3 71 [aR x] σ (fun w σ2 => w = aI (nI (mGo A)) ∧ σ2 = σ) := by
  have hR := hI.1.2
  obtain ⟨f0, f1, f2, f3, f4, f5, f6, f7, f8⟩ := xf h
  have li := h.2.1.2.1
  refine sg_71_0 (d := 2) ?_
  refine ax_down (N := mR A) (fun i => ∀ v : AV, ax_wp e0 mo 3 71 (4, [aR x, aI (nI (ax_n (mGb A) i)), aI (nI i), v], []) σ _) ?_ (fun i hi ih => ?_) 0 (Nat.zero_le _) aU
  · intro v
    refine sg_71_4 (d := 2) ⟨ax_kd f0, ?_⟩
    rw [f2]
    refine ⟨ax_kd li.1, ax_use0 (ct_157 li) rfl ?_⟩
    exact sg_71_12 (d := 2) ⟨fun q => absurd q (nI_nlt (Nat.le_refl _) (by omega)), fun _ => ⟨rfl, rfl⟩⟩
  · intro v
    obtain ⟨a1, a2, a3, a4, a5, a6, a7, a8⟩ := ru_at h hi
    have hs : mU A 11 i < 11 := by have := (hI.2.2.2.2.1 i hi).1; omega
    refine sg_71_4 (d := 2) ⟨ax_kd f0, ?_⟩
    rw [f2]
    refine ⟨ax_kd li.1, ax_use0 (ct_157 li) rfl ?_⟩
    refine sg_71_12 (d := 2) ⟨fun _ => ⟨ax_kd f0, ?_⟩, fun q => absurd (nI_lt hi (by omega)) q⟩
    rw [f2]
    refine ⟨ax_kd li.1, ax_use0 (ct_160 li hi) rfl ?_⟩
    refine sg_71_23 (d := 2) ⟨Or.inr (ax_kd a1), ax_kd a1, ?_⟩
    rw [a6, nI_1, nI_1]
    refine pk_eq (mU A 11 i) 7 (fun q => ?_) (fun q7 => pk_eq (mU A 11 i) 8 (fun q => ?_) (fun q8 => ?_))
    · have e : mGb A i = true := by unfold mGb; rw [q]; rfl
      rw [ax_n_yes e] at ih; exact ih _
    · have e : mGb A i = true := by unfold mGb; rw [q]; rfl
      rw [ax_n_yes e] at ih; exact ih _
    · have e : mGb A i = false := by unfold mGb; rw [nb_ne q7, nb_ne q8]; rfl
      rw [ax_n_no e] at ih; exact ih _
theorem ct_69 (h : ax_rc e0 σ x L A) (hI : mB A) : cl_ck e0 mo 6 69 [aR x] σ (Nat.beq (mGo A) 0) 2 (fun u => u = aU) := by
  have hg := mGo_le hI
  refine sg_69_0 (d := 5) ⟨ax_kd (xf h).1, ax_use0 (ct_71 h hI) rfl ?_⟩
  refine sg_69_4 (d := 5) ⟨fun q => ⟨by decide, ?_, rfl, rfl⟩, fun q => ⟨?_, rfl, rfl⟩⟩
  · exact nb_ne (by have := (pos_iff (by omega)).mp q; omega)
  · have : mGo A = 0 := by
      rcases Nat.eq_zero_or_pos (mGo A) with z | z
      · exact z
      · exact absurd ((pos_iff (by omega)).mpr z) q
    rw [this]; rfl
theorem ct_70 (v : Int32) : ax_ok e0 mo 0 70 [aI v] σ (fun w σ2 => w = aI (bI (inI v)) ∧ σ2 = σ) := by
  refine sg_70_0 ⟨fun z => ⟨Or.inl rfl, ?_, rfl⟩, fun z => ⟨fun y => ⟨Or.inl rfl, ?_, rfl⟩, fun y => ⟨Or.inr rfl, ?_, rfl⟩⟩⟩
  · rw [show inI v = false from decide_eq_false (fun w => Int32.not_lt.mpr w.1 z)]; rfl
  · rw [show inI v = false from decide_eq_false (fun w => Int32.not_lt.mpr w.2 y)]; rfl
  · rw [show inI v = true from decide_eq_true ⟨Int32.not_lt.mp z, Int32.not_lt.mp y⟩]; rfl
theorem ct_68 (h : ax_rc e0 σ x L A) (v : Int32) : cl_ck e0 mo 6 68 [aR x, aI v] σ (inB v 4) 0 (fun u => u = aU) := by
  obtain ⟨f0, f1, f2, f3, f4, f5, f6, f7, f8⟩ := xf h
  refine sg_68_0 ⟨fun z => ⟨by decide, inB_neg (by decide) z, rfl, rfl⟩, fun z => ⟨ax_kd f0, ?_⟩⟩
  rw [f4, f6]
  exact ⟨⟨by decide, by decide⟩, fun y => ⟨inB_lt (n := 4) (by decide) z y, rfl, rfl⟩, fun y => ⟨by decide, inB_ge (n := 4) (by decide) y, rfl, rfl⟩⟩
theorem wk_at (h : ax_rc e0 σ x L A) (hw : w < 4) : ax_in σ 24 (lF L 3) (nI w) ∧ (nI w).toNatClampNeg = w ∧ sgR σ 24 w (lF L 3) = if mW A w = 0 then 0 else gJp L (mW A w - 1) := ⟨ax_in_nI (xf h).2.2.2.2.2.2.1 hw (by decide), nI_clamp (by omega), h.2.2.2.2.2.2.1 w hw⟩
/-- a worker's job -/
theorem wj_at (h : ax_rc e0 σ x L A) (hJJ : mJJ A) {p : Nat} (hp : mW A w = p + 1) : pR p < mR A ∧ pK p < mU A 16 (pR p) ∧ pJ p < 16 ∧ mJp A 0 p = 2 ∧ mG A (pR p) ∧ rcJ1 σ L A (pR p) (pK p) (pJ p) := by
  obtain ⟨⟨hI, hP, hN⟩, hGo, hQ, hW, hJ, hE, h60⟩ := hJJ
  obtain ⟨p1, p2, p3⟩ := hW.2.2 w p hp
  have hk := (mNk hI hJ p1 (show mJp A 0 p ≠ 8 by rw [show mJp A 0 p = 2 from p3]; decide)).1
  have hj := (pl_of p).2.2
  exact ⟨p1, hk, hj, p3, p2, h.2.2.2.2.2.1 _ _ _ p1 hk hj (by rw [p3]; decide)⟩
theorem ct_66 (h : ax_rc e0 σ x L A) (hJJ : mJJ A) (v : Int32) : ax_wp e0 mo 7 66 (0, ax_entry 66 [aR x, aI v], []) σ (ax_ct (fun u σ2 => hasW A v = true ∧ u = aR (gJp L (mW A v.toNatClampNeg - 1)) ∧ σ2 = σ) (fun E σ2 => hasW A v = false ∧ E = (bif inB v 4 then 2 else 0) ∧ σ2 = thrC σ)) := by
  obtain ⟨f0, f1, f2, f3, f4, f5, f6, f7, f8⟩ := xf h
  unfold hasW
  refine sg_66_0 (d := 6) ⟨ax_kd f0, ?_⟩
  refine ck_use (ct_68 h v) rfl (fun u e hu => ?_) (fun e => ?_)
  · subst hu
    obtain ⟨w, hw, rfl⟩ := inB_yes e (by decide)
    obtain ⟨i1, c1, v1⟩ := wk_at h hw
    rw [e, c1]
    refine sg_66_5 (d := 6) ⟨ax_kd f0, ?_⟩
    rw [f4, c1, v1]
    by_cases z : mW A w = 0
    · rw [z]
      exact ⟨i1, fun _ => ⟨by decide, rfl, rfl, rfl⟩, fun q => absurd rfl q⟩
    · rw [if_neg z, nb_ne z]
      obtain ⟨q1, q2, q3, q4, q5, q6⟩ := wj_at h hJJ (w := w) (p := mW A w - 1) (by omega)
      exact ⟨i1, fun q => absurd q (Nat.ne_of_gt q6.1.1), fun _ => ⟨rfl, rfl, rfl⟩⟩
  · rw [e]
    exact ⟨rfl, rfl, rfl⟩
theorem ct_65 (h : ax_rc e0 σ x L A) (hJJ : mJJ A) (v : Int32) : cl_ck e0 mo 6 65 [aR x, aI v] σ (inB v (mQ A).length) 0 (fun u => u = aR (lQ L A v.toNatClampNeg)) := by
  have hl := mQ_len hJJ.2.1 hJJ.2.2.1
  obtain ⟨f0, f1, f2, f3, f4, f5, f6, f7, f8⟩ := xf h
  have li := h.2.1.2.2.1
  refine sg_65_0 (d := 5) ⟨fun z => ⟨by decide, inB_neg (by omega) z, rfl, rfl⟩, fun z => ⟨ax_kd f0, ?_⟩⟩
  rw [f3]
  refine ⟨ax_kd li.1, ax_use0 (ct_157 li) rfl ?_⟩
  refine sg_65_12 (d := 5) ⟨fun y => ⟨ax_kd f0, ?_⟩, fun y => ⟨by decide, inB_ge (by omega) y, rfl, rfl⟩⟩
  have e := inB_lt (by omega) z y
  obtain ⟨i, hi, rfl⟩ := inB_yes e (by omega)
  have ci : (nI i).toNatClampNeg = i := nI_clamp (by omega)
  have hm := mQ_at hi
  obtain ⟨p1, p2, p3⟩ := hJJ.2.2.1.2 _ hm
  have hk := (mNk hJJ.1.1 hJJ.2.2.2.2.1 p1 (show mJp A 0 _ ≠ 8 by rw [show mJp A 0 _ = 1 from p3]; decide)).1
  have j1 := h.2.2.2.2.2.1 _ _ _ p1 hk (pl_of _).2.2 (by rw [p3]; decide)
  rw [f3]
  refine ⟨ax_kd li.1, ax_use0 (ct_160 li hi) rfl ?_⟩
  refine sg_65_34 (d := 5) ⟨Or.inr (ax_kd j1.1.2.1), e, ?_, rfl⟩
  rw [ci]
theorem ct_67 (h : ax_rc e0 σ x L A) (hE : mEB A) (v : Int32) : cl_ck e0 mo 6 67 [aR x, aI v] σ (inB v (mE A).length) 0 (fun u => u = aR (gE L v.toNatClampNeg)) := by
  have hl := hE.1
  obtain ⟨f0, f1, f2, f3, f4, f5, f6, f7, f8⟩ := xf h
  have li := h.2.1.2.2.2.1
  refine sg_67_0 (d := 5) ⟨fun z => ⟨by decide, inB_neg (by omega) z, rfl, rfl⟩, fun z => ⟨ax_kd f0, ?_⟩⟩
  rw [f5, f8]
  refine ⟨ax_kd f7, ax_kd li.1, ax_use0 (ct_157 li) rfl ?_⟩
  refine sg_67_15 (d := 5) ⟨fun y => ⟨ax_kd f0, ?_⟩, fun y => ⟨by decide, inB_ge (by omega) y, rfl, rfl⟩⟩
  have e := inB_lt (by omega) z y
  obtain ⟨i, hi, rfl⟩ := inB_yes e (by omega)
  have ci : (nI i).toNatClampNeg = i := nI_clamp (by omega)
  rw [f5, f8]
  refine ⟨ax_kd f7, ax_kd li.1, ax_use0 (ct_160 li hi) rfl ?_⟩
  refine sg_67_40 (d := 5) ⟨Or.inr (ax_kd (h.2.2.2.2.2.2.2.1 i hi).1), e, ?_, rfl⟩
  rw [ci]
theorem ct_72 {q n t : Nat} (h : ax_rc e0 σ x L A) (hI : mB A) (hq : sgK σ q = (5, 10)) (hn : sgI σ 5 4 q = nI n) (hn8 : n < 2 ^ 8) (ht : t < 8) : ax_ok e0 mo 3 72 [aR x, aR q, aI (nI t)] σ (fun w σ2 => w = aI (bI (mBit (mTurn A n (mN A)) t)) ∧ σ2 = σ) := by
  have hN := hI.1.1
  have hb := mB_needs hI
  obtain ⟨f0, f1, f2, f3, f4, f5, f6, f7, f8⟩ := xf h
  have li := h.2.1.1
  refine sg_72_0 (d := 2) ⟨ax_kd hq, ?_⟩
  rw [hn]
  refine ax_down (N := mN A) (fun s => ∀ v : AV, ax_wp e0 mo 3 72 (8, [aR x, aR q, aI (nI t), aI (nI (mTurn A n s)), aI (nI s), v], []) σ _) ?_ (fun s hs ih => ?_) 0 (Nat.zero_le _) aU
  · intro v
    have hlt := mTurn_lt hb hn8 (mN A)
    refine sg_72_8 (d := 2) ⟨ax_kd f0, ?_⟩
    rw [f1]
    refine ⟨ax_kd li.1, ax_use0 (ct_157 li) rfl ?_⟩
    refine sg_72_17 (d := 2) ⟨fun q => absurd q (nI_nlt (Nat.le_refl _) (by omega)), fun _ => ?_⟩
    rw [bit_nI (by omega) (by omega)]
    refine ⟨fun z => ⟨Or.inl rfl, ?_, rfl⟩, fun z => ⟨Or.inr rfl, ?_, rfl⟩⟩
    · rw [bit_zero.mp z]; rfl
    · rw [not_false_b (fun w => z (bit_zero.mpr w))]; rfl
  · intro v
    have hts := mTurn_lt hb hn8 s
    refine sg_72_8 (d := 2) ⟨ax_kd f0, ?_⟩
    rw [f1]
    refine ⟨ax_kd li.1, ax_use0 (ct_157 li) rfl ?_⟩
    refine sg_72_17 (d := 2) ⟨fun _ => ?_, fun q => absurd (nI_lt hs (by omega)) q⟩
    refine ax_down (N := mN A) (fun i => ax_wp e0 mo 3 72 (23, [aR x, aR q, aI (nI t), aI (nI (mPass A (mTurn A n s) i)), aI (nI s), aI (nI i)], []) σ _) ?_ (fun i hi ih2 => ?_) 0 (Nat.zero_le _)
    · refine sg_72_23 (d := 2) ⟨ax_kd f0, ?_⟩
      rw [f1]
      refine ⟨ax_kd li.1, ax_use0 (ct_157 li) rfl ?_⟩
      refine sg_72_32 (d := 2) ⟨fun q => absurd q (nI_nlt (Nat.le_refl _) (by omega)), fun _ => ?_⟩
      rw [nI_1]
      exact ih _
    · have hp := mPass_lt hb hts i (by omega)
      obtain ⟨s1, s2, s3⟩ := h.2.2.1 i hi
      have e : mPass A (mTurn A n s) (i + 1) = bif mBit (mPass A (mTurn A n s) i) i then mPass A (mTurn A n s) i ||| mS A 4 i else mPass A (mTurn A n s) i := rfl
      rw [e] at ih2
      refine sg_72_23 (d := 2) ⟨ax_kd f0, ?_⟩
      rw [f1]
      refine ⟨ax_kd li.1, ax_use0 (ct_157 li) rfl ?_⟩
      refine sg_72_32 (d := 2) ⟨fun _ => ?_, fun q => absurd (nI_lt hi (by omega)) q⟩
      rw [bit_nI (by omega) (by omega), nI_1]
      refine ⟨fun z => ?_, fun z => ⟨ax_kd f0, ?_⟩⟩
      · rw [bit_zero.mp z] at ih2; exact ih2
      · rw [f1]
        refine ⟨ax_kd li.1, ax_use0 (ct_160 li hi) rfl ?_⟩
        refine sg_72_54 (d := 2) ⟨Or.inr (ax_kd s1), ax_kd s1, ?_⟩
        rw [s3 4 (by decide) (by decide), ax_orI, nI_1]
        rw [not_false_b (fun w => z (bit_zero.mpr w))] at ih2
        exact ih2
end
end AXRC
