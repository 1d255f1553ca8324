/-! The class's small reads: jobs, stages, parts, runs. -/
section AXRB
section
variable {e0 mo : Nat} {σ σ' : SG} {x : Nat} {L : LY} {A A' : MS} {r k j p w : Nat}
theorem st_over : ∀ s, s < 8 → ((mSt s = 3 ∨ mSt s = 4 ∨ mSt s = 5 ∨ mSt s = 6) ↔ mOv s = true) := by decide
theorem ct_7 (h : rcJ1 σ L A r k j) (hs : mJ A 0 r k j < 8) : ax_ok e0 mo 0 7 [aR (gJ L r k j)] σ (fun w σ2 => w = aI (bI (mOv (mJ A 0 r k j))) ∧ σ2 = σ) := by
  obtain ⟨⟨a1, a2, a3, a4⟩, a5, a6, a7, a8, a9⟩ := h
  have key := st_over _ hs
  have hm : mSt (mJ A 0 r k j) < 8 := by show (if _ then _ else _) < 8; split <;> omega
  generalize mOv (mJ A 0 r k j) = b at key ⊢
  refine sg_7_0 ⟨ax_kd a2, ?_⟩
  rw [a5]
  generalize mSt (mJ A 0 r k j) = s at key hm ⊢
  have yes : (s = 3 ∨ s = 4 ∨ s = 5 ∨ s = 6) → (((1 : Int32) = 0 ∨ (1 : Int32) = 1) ∧ (ax_ct (fun w σ2 => w = aI (bI b) ∧ σ2 = σ) (fun _ _ => False)) (.inl (aI 1)) σ) := fun z => ⟨Or.inr rfl, by rw [key.mp z]; exact ⟨rfl, rfl⟩⟩
  refine pk_eq s 3 (fun q => yes (by omega)) (fun q3 => ⟨ax_kd a2, pk_eq s 4 (fun q => yes (by omega)) (fun q4 => ⟨ax_kd a2, pk_eq s 5 (fun q => yes (by omega)) (fun q5 => ⟨ax_kd a2, pk_eq s 6 (fun q => yes (by omega)) (fun q6 => ⟨Or.inl rfl, ?_⟩)⟩)⟩)⟩)
  have e : b = false := not_true_b fun z => by rcases key.mpr z with y | y | y | y <;> contradiction
  rw [e]; exact ⟨rfl, rfl⟩
theorem st_ok : ∀ s, s < 8 → ∀ m, m < 2 → mOk m s = (if mSt s = 3 then true else if m = 0 then false else if mSt s = 4 then true else if mSt s = 5 then (if (if s = 7 then 1 else 0) = 0 then false else true) else false) := by decide
theorem ct_8 (h : rcJ1 σ L A r k j) (hs : mJ A 0 r k j < 8) {m : Nat} (hm : m < 2) : ax_ok e0 mo 0 8 [aR (gJ L r k j), aI (nI m)] σ (fun w σ2 => w = aI (bI (mOk m (mJ A 0 r k j))) ∧ σ2 = σ) := by
  obtain ⟨⟨a1, a2, a3, a4⟩, a5, a6, a7, a8, a9⟩ := h
  have key := st_ok _ hs m hm
  have h8 : mSt (mJ A 0 r k j) < 8 := by show (if _ then _ else _) < 8; split <;> omega
  have h2 : (if mJ A 0 r k j = 7 then 1 else 0) < 2 := by split <;> decide
  rw [key]
  refine sg_8_0 ⟨ax_kd a2, ?_⟩
  rw [a5, a9]
  generalize mSt (mJ A 0 r k j) = s at h8 ⊢
  generalize (if mJ A 0 r k j = 7 then 1 else 0) = u at h2 ⊢
  refine pk_eq s 3 (fun q => ⟨Or.inr rfl, ?_⟩) (fun q3 => pk_eq m 0 (fun q => ⟨Or.inl rfl, ?_⟩) (fun q0 => ⟨ax_kd a2, pk_eq s 4 (fun q => ⟨Or.inr rfl, ?_⟩) (fun q4 => ⟨ax_kd a2, pk_eq s 5 (fun q => ⟨ax_kd a2, pk_eq u 0 (fun qu => ⟨Or.inl rfl, ?_⟩) (fun qu => ⟨Or.inr rfl, ?_⟩)⟩) (fun q5 => ⟨Or.inl rfl, ?_⟩)⟩)⟩))
  · rw [if_pos q]; exact ⟨rfl, rfl⟩
  · rw [if_neg q3, if_pos q]; exact ⟨rfl, rfl⟩
  · rw [if_neg q3, if_neg q0, if_pos q]; exact ⟨rfl, rfl⟩
  · rw [if_neg q3, if_neg q0, if_neg q4, if_pos q, if_pos qu]; exact ⟨rfl, rfl⟩
  · rw [if_neg q3, if_neg q0, if_neg q4, if_pos q, if_neg qu]; exact ⟨rfl, rfl⟩
  · rw [if_neg q3, if_neg q0, if_neg q4, if_neg q5]; exact ⟨rfl, rfl⟩
theorem st_012 : ∀ s, s < 8 → ∀ t, t < 5 → (mSt s = t ↔ s = t) := by decide
def ccB (s m : Nat) : Bool := Nat.beq s 0 || Nat.beq s 1 || (Nat.beq s 2 && Nat.beq m 1)
theorem ct_9 (h : rcJ1 σ L A r k j) (hs : mJ A 0 r k j < 8) {m : Nat} (hm : m < 2) : ax_ok e0 mo 0 9 [aR (gJ L r k j), aI (nI m)] σ (fun w σ2 => w = aI (bI (ccB (mJ A 0 r k j) m)) ∧ σ2 = σ) := by
  obtain ⟨⟨a1, a2, a3, a4⟩, a5, a6, a7, a8, a9⟩ := h
  have h8 : mSt (mJ A 0 r k j) < 8 := by show (if _ then _ else _) < 8; split <;> omega
  have s0 := st_012 _ hs 0 (by decide)
  have s1 := st_012 _ hs 1 (by decide)
  have s2 := st_012 _ hs 2 (by decide)
  refine sg_9_0 ⟨ax_kd a2, ?_⟩
  rw [a5]
  refine pk_eq (mSt (mJ A 0 r k j)) 0 (fun q => ⟨Or.inr rfl, ?_⟩) (fun q0 => ⟨ax_kd a2, pk_eq (mSt (mJ A 0 r k j)) 1 (fun q => ⟨Or.inr rfl, ?_⟩) (fun q1 => ⟨ax_kd a2, pk_eq (mSt (mJ A 0 r k j)) 2 (fun q => pk_eq m 0 (fun qm => ⟨Or.inl rfl, ?_⟩) (fun qm => ⟨Or.inr rfl, ?_⟩)) (fun q2 => ⟨Or.inl rfl, ?_⟩)⟩)⟩)
  · rw [s0.mp q]; exact ⟨rfl, rfl⟩
  · rw [s1.mp q]; exact ⟨rfl, rfl⟩
  · rw [s2.mp q, qm]; exact ⟨rfl, rfl⟩
  · have : m = 1 := by omega
    rw [s2.mp q, this]; exact ⟨rfl, rfl⟩
  · unfold ccB
    rw [nb_ne (fun z => q0 (s0.mpr z)), nb_ne (fun z => q1 (s1.mpr z)), nb_ne (fun z => q2 (s2.mpr z))]
    exact ⟨rfl, rfl⟩
/-- a job's place in its part -/
theorem sl_at (h : ax_rc e0 σ x L A) (hI : mB A) (hr : r < mR A) (hk : k < mU A 16 r) (hj : j < 16) : (mJ A 0 r k j = 8 ∧ sgR σ 24 j (gP L 2 r k) = 0) ∨ (mJ A 0 r k j < 8 ∧ sgR σ 24 j (gP L 2 r k) = gJ L r k j ∧ ¬ gJ L r k j = 0 ∧ sgK σ (gJ L r k j) = (2, 7) ∧ rcJ1 σ L A r k j) := by
  obtain ⟨hX, hL, hS, hU, hP, hJ, hWk, hE, hB⟩ := h
  have hs := (hI.2.2.2.2.2 r k j hr).1
  have h1 := (hP r k hr hk).2.2.2 j hj
  by_cases z : mJ A 0 r k j = 8
  · rw [if_pos z] at h1
    exact Or.inl ⟨z, h1⟩
  · rw [if_neg z] at h1
    have h2 := hJ r k j hr hk hj z
    exact Or.inr ⟨by omega, h1, Nat.ne_of_gt h2.1.1, h2.1.2.1, h2⟩
/-- a part's fields -/
theorem pt_at (h : ax_rc e0 σ x L A) (hr : r < mR A) (hk : k < mU A 16 r) : sgK σ (gP L 0 r k) = (3, 3) ∧ sgR σ 3 0 (gP L 0 r k) = gU L 0 r ∧ sgR σ 3 1 (gP L 0 r k) = gP L 1 r k ∧ sgR σ 3 2 (gP L 0 r k) = gP L 2 r k ∧ sgK σ (gP L 1 r k) = (5, 10) ∧ sgI σ 5 0 (gP L 1 r k) = nI k ∧ (∀ f, 1 ≤ f → f ≤ 9 → sgI σ 5 f (gP L 1 r k) = nI (mP A f r k)) ∧ sgK σ (gP L 2 r k) = (24, 16) := by
  obtain ⟨⟨a1, a2, a3, a4⟩, ⟨b1, b2, b3⟩, c1, -⟩ := h.2.2.2.2.1 r k hr hk
  exact ⟨a1, a2, a3, a4, b1, b2, b3, c1⟩
theorem ct_12 (h : ax_rc e0 σ x L A) (hI : mB A) (hr : r < mR A) (hk : k < mU A 16 r) {s : Nat} (hs : s < 5) : ax_ok e0 mo 0 12 [aR (gP L 0 r k), aI (nI s)] σ (fun w σ2 => w = aI (nI (mCnt A r k s)) ∧ σ2 = σ) := by
  obtain ⟨a1, a2, a3, a4, b1, b2, b3, c1⟩ := pt_at h hr hk
  refine sg_12_0 ?_
  refine ax_down (N := 16) (fun i => ∀ v : AV, ax_wp e0 mo 0 12 (4, [aR (gP L 0 r k), aI (nI s), aI (nI (ax_n (fun j => Nat.beq (mJ A 0 r k j) s) i)), aI (nI i), v], []) σ _) ?_ (fun i hi ih => ?_) 0 (Nat.zero_le _) aU
  · intro v
    refine sg_12_4 ⟨ax_kd a1, ?_⟩
    rw [a4, c1]
    exact ⟨⟨by decide, by decide⟩, fun q => absurd q (by decide), fun _ => ⟨rfl, rfl⟩⟩
  · intro v
    have ci : (nI i).toNatClampNeg = i := nI_clamp (by omega)
    have iin : ax_in σ 24 (gP L 2 r k) (nI i) := ax_in_nI c1 hi (by decide)
    refine sg_12_4 ⟨ax_kd a1, ?_⟩
    rw [a4, c1, ci]
    refine ⟨⟨by decide, by decide⟩, fun _ => ⟨ax_kd a1, iin, ?_⟩, fun q => absurd (nI_lt (b := 16) hi (by decide)) q⟩
    rcases sl_at h hI hr hk hi with ⟨z, y⟩ | ⟨z, y, nz, kj, hj1⟩
    · rw [y]
      have e : Nat.beq (mJ A 0 r k i) s = false := nb_ne (by omega)
      rw [ax_n_no (p := fun j => Nat.beq (mJ A 0 r k j) s) e] at ih
      refine ⟨fun _ => ?_, fun q => absurd rfl q⟩
      rw [nI_1]; exact ih _
    · rw [y]
      refine ⟨fun q => absurd q nz, fun _ => ⟨ax_kd kj, ?_⟩⟩
      have hm : mSt (mJ A 0 r k i) < 8 := by show (if _ then _ else _) < 8; split <;> omega
      have st := st_012 _ z s hs
      rw [hj1.2.1, nI_1, nI_1]
      refine pk_eq (mSt (mJ A 0 r k i)) s (fun q => ?_) (fun q => ?_)
      · have e : Nat.beq (mJ A 0 r k i) s = true := by rw [st.mp q]; exact Nat.beq_refl s
        rw [ax_n_yes (p := fun j => Nat.beq (mJ A 0 r k j) s) e] at ih
        exact ih _
      · have e : Nat.beq (mJ A 0 r k i) s = false := nb_ne fun w => q (st.mpr w)
        rw [ax_n_no (p := fun j => Nat.beq (mJ A 0 r k j) s) e] at ih
        exact ih _
theorem ct_13 (h : ax_rc e0 σ x L A) (hI : mB A) (hr : r < mR A) (hk : k < mU A 16 r) : ax_ok e0 mo 1 13 [aR (gP L 0 r k)] σ (fun w σ2 => w = aI (bI (mOver A r k)) ∧ σ2 = σ) := by
  obtain ⟨a1, a2, a3, a4, b1, b2, b3, c1⟩ := pt_at h hr hk
  refine sg_13_0 (d := 0) ?_
  refine ax_down (N := 16) (fun i => (∀ j, j < i → mJ A 0 r k j = 8 ∨ mOv (mJ A 0 r k j) = true) → ∀ v : AV, ax_wp e0 mo 1 13 (2, [aR (gP L 0 r k), aI (nI i), v], []) σ _) ?_ (fun i hi ih => ?_) 0 (Nat.zero_le _) (fun j hj => absurd hj (Nat.not_lt_zero j)) aU
  · intro ok v
    refine sg_13_2 (d := 0) ⟨ax_kd a1, ?_⟩
    rw [a4, c1, mOver_iff.mpr ok]
    exact ⟨⟨by decide, by decide⟩, fun q => absurd q (by decide), fun _ => ⟨Or.inr rfl, rfl, rfl⟩⟩
  · intro ok v
    have ci : (nI i).toNatClampNeg = i := nI_clamp (by omega)
    have iin : ax_in σ 24 (gP L 2 r k) (nI i) := ax_in_nI c1 hi (by decide)
    refine sg_13_2 (d := 0) ⟨ax_kd a1, ?_⟩
    rw [a4, c1, ci]
    refine ⟨⟨by decide, by decide⟩, fun _ => ⟨ax_kd a1, iin, ?_⟩, fun q => absurd (nI_lt (b := 16) hi (by decide)) q⟩
    rcases sl_at h hI hr hk hi with ⟨z, y⟩ | ⟨z, y, nz, kj, hj1⟩
    · rw [y]
      refine ⟨fun _ => ?_, fun q => absurd rfl q⟩
      rw [nI_1]
      refine ih (fun j hj => ?_) _
      rcases Nat.lt_succ_iff_lt_or_eq.mp hj with w | w
      · exact ok j w
      · rw [w]; exact Or.inl z
    · rw [y]
      refine ⟨fun q => absurd q nz, fun _ => ⟨ax_kd kj, ?_⟩⟩
      refine ax_use0 (ct_7 hj1 z) rfl ?_
      refine sg_13_26 (d := 0) ⟨fun q => ⟨Or.inl rfl, ?_, rfl⟩, fun q => ?_⟩
      · have e : mOver A r k = false := not_true_b fun w => by
          rcases mOver_iff.mp w i hi with u | u
          · omega
          · rw [u] at q; exact absurd q (by decide)
        rw [e]; rfl
      · rw [nI_1]
        refine ih (fun j hj => ?_) _
        rcases Nat.lt_succ_iff_lt_or_eq.mp hj with w | w
        · exact ok j w
        · rw [w]; exact Or.inr (bI1 q)
theorem ct_14 (h : ax_rc e0 σ x L A) (hI : mB A) (hP : mPB A) (hr : r < mR A) (hk : k < mU A 16 r) : ax_ok e0 mo 1 14 [aR (gP L 0 r k)] σ (fun w σ2 => w = aI (bI (mWell A r k)) ∧ σ2 = σ) := by
  obtain ⟨a1, a2, a3, a4, b1, b2, b3, c1⟩ := pt_at h hr hk
  have hm : mP A 8 r k < 2 := by have := (hP r k hr hk).2.2.1; omega
  refine sg_14_0 (d := 0) ?_
  refine ax_down (N := 16) (fun i => (∀ j, j < i → mJ A 0 r k j = 8 ∨ mOk (mP A 8 r k) (mJ A 0 r k j) = true) → ∀ v : AV, ax_wp e0 mo 1 14 (2, [aR (gP L 0 r k), aI (nI i), v], []) σ _) ?_ (fun i hi ih => ?_) 0 (Nat.zero_le _) (fun j hj => absurd hj (Nat.not_lt_zero j)) aU
  · intro ok v
    refine sg_14_2 (d := 0) ⟨ax_kd a1, ?_⟩
    rw [a4, c1, mWell_iff.mpr ok]
    exact ⟨⟨by decide, by decide⟩, fun q => absurd q (by decide), fun _ => ⟨Or.inr rfl, rfl, rfl⟩⟩
  · intro ok v
    have ci : (nI i).toNatClampNeg = i := nI_clamp (by omega)
    have iin : ax_in σ 24 (gP L 2 r k) (nI i) := ax_in_nI c1 hi (by decide)
    refine sg_14_2 (d := 0) ⟨ax_kd a1, ?_⟩
    rw [a4, c1, ci]
    refine ⟨⟨by decide, by decide⟩, fun _ => ⟨ax_kd a1, iin, ?_⟩, fun q => absurd (nI_lt (b := 16) hi (by decide)) q⟩
    rcases sl_at h hI hr hk hi with ⟨z, y⟩ | ⟨z, y, nz, kj, hj1⟩
    · rw [y]
      refine ⟨fun _ => ?_, fun q => absurd rfl q⟩
      rw [nI_1]
      refine ih (fun j hj => ?_) _
      rcases Nat.lt_succ_iff_lt_or_eq.mp hj with w | w
      · exact ok j w
      · rw [w]; exact Or.inl z
    · rw [y, a3, b3 8 (by decide) (by decide)]
      refine ⟨fun q => absurd q nz, fun _ => ⟨ax_kd a1, ax_kd b1, ax_kd kj, ?_⟩⟩
      refine ax_use0 (ct_8 hj1 z hm) rfl ?_
      refine sg_14_33 (d := 0) ⟨fun q => ⟨Or.inl rfl, ?_, rfl⟩, fun q => ?_⟩
      · have e : mWell A r k = false := not_true_b fun w => by
          rcases mWell_iff.mp w i hi with u | u
          · omega
          · rw [u] at q; exact absurd q (by decide)
        rw [e]; rfl
      · rw [nI_1]
        refine ih (fun j hj => ?_) _
        rcases Nat.lt_succ_iff_lt_or_eq.mp hj with w | w
        · exact ok j w
        · rw [w]; exact Or.inr (bI1 q)
def mStopP (A : MS) (r k : Nat) : Bool := Nat.beq (mP A 7 r k) 1 && Nat.blt 0 (mCnt A r k 4)
theorem ct_15 (h : ax_rc e0 σ x L A) (hI : mB A) (hP : mPB A) (hr : r < mR A) (hk : k < mU A 16 r) : ax_ok e0 mo 1 15 [aR (gP L 0 r k)] σ (fun w σ2 => w = aI (bI (mStopP A r k)) ∧ σ2 = σ) := by
  obtain ⟨a1, a2, a3, a4, b1, b2, b3, c1⟩ := pt_at h hr hk
  have hm : mP A 7 r k < 2 := by have := (hP r k hr hk).2.1; omega
  have hc := mCnt_le A r k 4
  refine sg_15_0 (d := 0) ⟨ax_kd a1, ?_⟩
  rw [a3, b3 7 (by decide) (by decide)]
  unfold mStopP
  refine ⟨ax_kd b1, pk_eq (mP A 7 r k) 0 (fun q => ⟨Or.inl rfl, ?_, rfl⟩) (fun q => ⟨ax_kd a1, ?_⟩)⟩
  · rw [q]; rfl
  · have e1 : mP A 7 r k = 1 := by omega
    rw [e1]
    refine ax_use0 (ct_12 (s := 4) h hI hr hk (by decide)) rfl ?_
    refine sg_15_15 (d := 0) ⟨fun z => ⟨Or.inr rfl, ?_, rfl⟩, fun z => ⟨Or.inl rfl, ?_, rfl⟩⟩
    · rw [Nat.blt_eq.mpr ((pos_iff (by omega)).mp z)]; rfl
    · rw [not_true_b (b := Nat.blt 0 (mCnt A r k 4)) (fun w => z ((pos_iff (by omega)).mpr (Nat.blt_eq.mp w)))]; rfl
theorem ct_31 {q n i : Nat} (hq : sgK σ q = (5, 10)) (hn : sgI σ 5 4 q = nI n) (hb : n < 2 ^ 31) (hi : i < 32) : ax_ok e0 mo 0 31 [aR q, aI (nI i)] σ (fun w σ2 => w = aI (bI (mBit n i)) ∧ σ2 = σ) := by
  refine sg_31_0 ⟨ax_kd hq, ?_⟩
  rw [hn, bit_nI hb hi]
  refine ⟨fun z => ⟨Or.inl rfl, ?_, rfl⟩, fun z => ⟨Or.inr rfl, ?_, rfl⟩⟩
  · rw [bit_zero.mp z]; rfl
  · rw [not_false_b (fun w => z (bit_zero.mpr w))]; rfl
theorem ct_29 {q a b n i : Nat} (hq : sgK σ q = (5, 10)) (h1 : sgI σ 5 1 q = nI a) (h2 : sgI σ 5 2 q = nI b) (h3 : sgI σ 5 3 q = nI n) (hn : n < 2 ^ 31) (hab : a * b < 32) (hi : i < 2 ^ 31) : ax_ok e0 mo 0 29 [aR q, aI (nI i)] σ (fun w σ2 => w = aI (bI (Nat.blt i (a * b) && !(mBit n i))) ∧ σ2 = σ) := by
  refine sg_29_0 ⟨fun z => absurd z (nI_pos hi), fun _ => ⟨ax_kd hq, ax_kd hq, ?_⟩⟩
  rw [h1, h2, h3, pk_mul]
  refine pk_lt i (a * b) (fun z => ⟨ax_kd hq, ?_⟩) (fun z => ⟨Or.inl rfl, ?_, rfl⟩)
  · rw [bit_nI hn (by omega), Nat.blt_eq.mpr z]
    refine ⟨fun w => ⟨Or.inr rfl, ?_, rfl⟩, fun w => ⟨Or.inl rfl, ?_, rfl⟩⟩
    · rw [bit_zero.mp w]; rfl
    · rw [not_false_b (fun u => w (bit_zero.mpr u))]; rfl
  · rw [not_true_b (b := Nat.blt i (a * b)) (fun w => absurd (Nat.blt_eq.mp w) (by omega))]; rfl
/-- a run's fields -/
theorem ru_at (h : ax_rc e0 σ x L A) (hr : r < mR A) : sgK σ (gU L 0 r) = (4, 5) ∧ sgI σ 4 0 (gU L 0 r) = nI r ∧ sgI σ 4 1 (gU L 0 r) = nI (mU A 12 r) ∧ sgR σ 4 2 (gU L 0 r) = gU L 1 r ∧ sgR σ 4 3 (gU L 0 r) = gU L 2 r ∧ sgI σ 4 4 (gU L 0 r) = nI (mU A 11 r) ∧ ax_li σ (gU L 2 r) (gU L 3 r) 10 (mU A 16 r) (gP L 0 r) ∧ sgK σ (gU L 2 r) = (8, 3) := by
  obtain ⟨⟨a1, a2, a3, a4, a5⟩, a6, -⟩ := h.2.2.2.1 r hr
  have l := h.2.1.2.2.2.2 r hr
  exact ⟨a1, a2, a3, a4, a5, a6, l, l.1⟩
theorem mU16_le (hI : mB A) (hr : r < mR A) : mU A 16 r ≤ 8 := by
  have h1 := (hI.2.2.2.2.1 r hr).2.2.2.2.2.2
  have h2 := hI.1.1
  omega
theorem ct_21 (h : ax_rc e0 σ x L A) (hI : mB A) (hP : mPB A) (hr : r < mR A) (hk : k < mU A 16 r) : ax_ok e0 mo 3 21 [aR (gU L 0 r), aR (gP L 1 r k)] σ (fun w σ2 => w = aI (bI (mAll (fun i => !(mBit (mP A 4 r k) i) || mOver A r i) (mU A 16 r))) ∧ σ2 = σ) := by
  obtain ⟨a1, a2, a3, a4, a5, a6, a7, a8⟩ := ru_at h hr
  obtain ⟨p1, p2, p3, p4, q1, q2, q3, c1⟩ := pt_at h hr hk
  have h8 := mU16_le hI hr
  have h4 := mPB_needs hP hI hr k hk
  refine sg_21_0 (d := 2) ?_
  refine ax_down (N := mU A 16 r) (fun i => (∀ j, j < i → (!(mBit (mP A 4 r k) j) || mOver A r j) = true) → ax_wp e0 mo 3 21 (2, [aR (gU L 0 r), aR (gP L 1 r k), aI (nI i)], []) σ _) ?_ (fun i hi ih => ?_) 0 (Nat.zero_le _) (fun j hj => absurd hj (Nat.not_lt_zero j))
  · intro ok
    refine sg_21_2 (d := 2) ⟨ax_kd a1, ?_⟩
    rw [a5]
    refine ⟨ax_kd a8, ax_use0 (ct_157 a7) rfl ?_⟩
    refine sg_21_10 (d := 2) ⟨fun q => absurd q (nI_nlt (Nat.le_refl _) (by omega)), fun _ => ⟨Or.inr rfl, ?_, rfl⟩⟩
    rw [mAll_iff.mpr ok]; rfl
  · intro ok
    have nx : ((!(mBit (mP A 4 r k) i) || mOver A r i) = true) → ax_wp e0 mo 3 21 (2, [aR (gU L 0 r), aR (gP L 1 r k), aI (nI i + 1)], []) σ (ax_ct (fun w σ2 => w = aI (bI (mAll (fun i => !(mBit (mP A 4 r k) i) || mOver A r i) (mU A 16 r))) ∧ σ2 = σ) (fun _ _ => False)) := fun e => by
      rw [nI_1]
      refine ih fun j hj => ?_
      rcases Nat.lt_succ_iff_lt_or_eq.mp hj with w | w
      · exact ok j w
      · rw [w]; exact e
    refine sg_21_2 (d := 2) ⟨ax_kd a1, ?_⟩
    rw [a5]
    refine ⟨ax_kd a8, ax_use0 (ct_157 a7) rfl ?_⟩
    refine sg_21_10 (d := 2) ⟨fun _ => ⟨ax_kd q1, ?_⟩, fun q => absurd (nI_lt hi (by omega)) q⟩
    refine ax_use0 (ct_31 q1 (q3 4 (by decide) (by decide)) (by omega) (by omega)) rfl ?_
    refine sg_21_18 (d := 2) ⟨fun q => nx ?_, fun q => ⟨ax_kd a1, ?_⟩⟩
    · rw [bI0 q]; rfl
    · rw [a5]
      refine ⟨ax_kd a8, ax_use0 (ct_160 a7 hi) rfl ?_⟩
      have pk := (pt_at h hr hi).1
      refine sg_21_29 (d := 2) ⟨Or.inr (ax_kd pk), ax_kd pk, ax_use0 (ct_13 h hI hr hi) rfl ?_⟩
      refine sg_21_35 (d := 2) ⟨fun z => ⟨Or.inl rfl, ?_, rfl⟩, fun z => nx ?_⟩
      · have e : mAll (fun i => !(mBit (mP A 4 r k) i) || mOver A r i) (mU A 16 r) = false := not_true_b fun w => by
          have := mAll_iff.mp w i hi
          rw [bI1 q, bI0 z] at this
          cases this
        rw [e]; rfl
      · rw [bI1 z, Bool.or_true]
theorem ct_22 (h : ax_rc e0 σ x L A) (hI : mB A) (hP : mPB A) (hr : r < mR A) (hk : k < mU A 16 r) : ax_ok e0 mo 3 22 [aR (gU L 0 r), aR (gP L 1 r k)] σ (fun w σ2 => w = aI (bI (mAll (fun i => !(mBit (mP A 4 r k) i) || mWell A r i) (mU A 16 r))) ∧ σ2 = σ) := by
  obtain ⟨a1, a2, a3, a4, a5, a6, a7, a8⟩ := ru_at h hr
  obtain ⟨p1, p2, p3, p4, q1, q2, q3, c1⟩ := pt_at h hr hk
  have h8 := mU16_le hI hr
  have h4 := mPB_needs hP hI hr k hk
  refine sg_22_0 (d := 2) ?_
  refine ax_down (N := mU A 16 r) (fun i => (∀ j, j < i → (!(mBit (mP A 4 r k) j) || mWell A r j) = true) → ax_wp e0 mo 3 22 (2, [aR (gU L 0 r), aR (gP L 1 r k), aI (nI i)], []) σ _) ?_ (fun i hi ih => ?_) 0 (Nat.zero_le _) (fun j hj => absurd hj (Nat.not_lt_zero j))
  · intro ok
    refine sg_22_2 (d := 2) ⟨ax_kd a1, ?_⟩
    rw [a5]
    refine ⟨ax_kd a8, ax_use0 (ct_157 a7) rfl ?_⟩
    refine sg_22_10 (d := 2) ⟨fun q => absurd q (nI_nlt (Nat.le_refl _) (by omega)), fun _ => ⟨Or.inr rfl, ?_, rfl⟩⟩
    rw [mAll_iff.mpr ok]; rfl
  · intro ok
    have nx : ((!(mBit (mP A 4 r k) i) || mWell A r i) = true) → ax_wp e0 mo 3 22 (2, [aR (gU L 0 r), aR (gP L 1 r k), aI (nI i + 1)], []) σ (ax_ct (fun w σ2 => w = aI (bI (mAll (fun i => !(mBit (mP A 4 r k) i) || mWell A r i) (mU A 16 r))) ∧ σ2 = σ) (fun _ _ => False)) := fun e => by
      rw [nI_1]
      refine ih fun j hj => ?_
      rcases Nat.lt_succ_iff_lt_or_eq.mp hj with w | w
      · exact ok j w
      · rw [w]; exact e
    refine sg_22_2 (d := 2) ⟨ax_kd a1, ?_⟩
    rw [a5]
    refine ⟨ax_kd a8, ax_use0 (ct_157 a7) rfl ?_⟩
    refine sg_22_10 (d := 2) ⟨fun _ => ⟨ax_kd q1, ?_⟩, fun q => absurd (nI_lt hi (by omega)) q⟩
    refine ax_use0 (ct_31 q1 (q3 4 (by decide) (by decide)) (by omega) (by omega)) rfl ?_
    refine sg_22_18 (d := 2) ⟨fun q => nx ?_, fun q => ⟨ax_kd a1, ?_⟩⟩
    · rw [bI0 q]; rfl
    · rw [a5]
      refine ⟨ax_kd a8, ax_use0 (ct_160 a7 hi) rfl ?_⟩
      have pk := (pt_at h hr hi).1
      refine sg_22_29 (d := 2) ⟨Or.inr (ax_kd pk), ax_kd pk, ax_use0 (ct_14 h hI hP hr hi) rfl ?_⟩
      refine sg_22_35 (d := 2) ⟨fun z => ⟨Or.inl rfl, ?_, rfl⟩, fun z => nx ?_⟩
      · have e : mAll (fun i => !(mBit (mP A 4 r k) i) || mWell A r i) (mU A 16 r) = false := not_true_b fun w => by
          have := mAll_iff.mp w i hi
          rw [bI1 q, bI0 z] at this
          cases this
        rw [e]; rfl
      · rw [bI1 z, Bool.or_true]
theorem ct_23 (h : ax_rc e0 σ x L A) (hI : mB A) (hr : r < mR A) : ax_ok e0 mo 3 23 [aR (gU L 0 r)] σ (fun w σ2 => w = aI (bI (mAll (mOver A r) (mU A 16 r))) ∧ σ2 = σ) := by
  obtain ⟨a1, a2, a3, a4, a5, a6, a7, a8⟩ := ru_at h hr
  have h8 := mU16_le hI hr
  refine sg_23_0 (d := 2) ?_
  refine ax_down (N := mU A 16 r) (fun i => (∀ j, j < i → mOver A r j = true) → ax_wp e0 mo 3 23 (2, [aR (gU L 0 r), aI (nI i)], []) σ _) ?_ (fun i hi ih => ?_) 0 (Nat.zero_le _) (fun j hj => absurd hj (Nat.not_lt_zero j))
  · intro ok
    refine sg_23_2 (d := 2) ⟨ax_kd a1, ?_⟩
    rw [a5]
    refine ⟨ax_kd a8, ax_use0 (ct_157 a7) rfl ?_⟩
    refine sg_23_10 (d := 2) ⟨fun q => absurd q (nI_nlt (Nat.le_refl _) (by omega)), fun _ => ⟨Or.inr rfl, ?_, rfl⟩⟩
    rw [mAll_iff.mpr ok]; rfl
  · intro ok
    refine sg_23_2 (d := 2) ⟨ax_kd a1, ?_⟩
    rw [a5]
    refine ⟨ax_kd a8, ax_use0 (ct_157 a7) rfl ?_⟩
    refine sg_23_10 (d := 2) ⟨fun _ => ⟨ax_kd a1, ?_⟩, fun q => absurd (nI_lt hi (by omega)) q⟩
    rw [a5]
    refine ⟨ax_kd a8, ax_use0 (ct_160 a7 hi) rfl ?_⟩
    have pk := (pt_at h hr hi).1
    refine sg_23_21 (d := 2) ⟨Or.inr (ax_kd pk), ax_kd pk, ax_use0 (ct_13 h hI hr hi) rfl ?_⟩
    refine sg_23_27 (d := 2) ⟨fun z => ⟨Or.inl rfl, ?_, rfl⟩, fun z => ?_⟩
    · have e : mAll (mOver A r) (mU A 16 r) = false := not_true_b fun w => by
        have := mAll_iff.mp w i hi
        rw [bI0 z] at this
        cases this
      rw [e]; rfl
    · rw [nI_1]
      refine ih fun j hj => ?_
      rcases Nat.lt_succ_iff_lt_or_eq.mp hj with w | w
      · exact ok j w
      · rw [w]; exact bI1 z
theorem ct_24 (h : ax_rc e0 σ x L A) (hI : mB A) (hP : mPB A) (hr : r < mR A) : ax_ok e0 mo 3 24 [aR (gU L 0 r)] σ (fun w σ2 => w = aI (bI (mAll (mWell A r) (mU A 16 r))) ∧ σ2 = σ) := by
  obtain ⟨a1, a2, a3, a4, a5, a6, a7, a8⟩ := ru_at h hr
  have h8 := mU16_le hI hr
  refine sg_24_0 (d := 2) ?_
  refine ax_down (N := mU A 16 r) (fun i => (∀ j, j < i → mWell A r j = true) → ax_wp e0 mo 3 24 (2, [aR (gU L 0 r), aI (nI i)], []) σ _) ?_ (fun i hi ih => ?_) 0 (Nat.zero_le _) (fun j hj => absurd hj (Nat.not_lt_zero j))
  · intro ok
    refine sg_24_2 (d := 2) ⟨ax_kd a1, ?_⟩
    rw [a5]
    refine ⟨ax_kd a8, ax_use0 (ct_157 a7) rfl ?_⟩
    refine sg_24_10 (d := 2) ⟨fun q => absurd q (nI_nlt (Nat.le_refl _) (by omega)), fun _ => ⟨Or.inr rfl, ?_, rfl⟩⟩
    rw [mAll_iff.mpr ok]; rfl
  · intro ok
    refine sg_24_2 (d := 2) ⟨ax_kd a1, ?_⟩
    rw [a5]
    refine ⟨ax_kd a8, ax_use0 (ct_157 a7) rfl ?_⟩
    refine sg_24_10 (d := 2) ⟨fun _ => ⟨ax_kd a1, ?_⟩, fun q => absurd (nI_lt hi (by omega)) q⟩
    rw [a5]
    refine ⟨ax_kd a8, ax_use0 (ct_160 a7 hi) rfl ?_⟩
    have pk := (pt_at h hr hi).1
    refine sg_24_21 (d := 2) ⟨Or.inr (ax_kd pk), ax_kd pk, ax_use0 (ct_14 h hI hP hr hi) rfl ?_⟩
    refine sg_24_27 (d := 2) ⟨fun z => ⟨Or.inl rfl, ?_, rfl⟩, fun z => ?_⟩
    · have e : mAll (mWell A r) (mU A 16 r) = false := not_true_b fun w => by
        have := mAll_iff.mp w i hi
        rw [bI0 z] at this
        cases this
      rw [e]; rfl
    · rw [nI_1]
      refine ih fun j hj => ?_
      rcases Nat.lt_succ_iff_lt_or_eq.mp hj with w | w
      · exact ok j w
      · rw [w]; exact bI1 z
theorem ct_25 (h : ax_rc e0 σ x L A) (hI : mB A) (hr : r < mR A) : ax_ok e0 mo 3 25 [aR (gU L 0 r)] σ (fun w σ2 => w = aI (bI (!(Nat.beq (mRun A r (mU A 16 r)) 0))) ∧ σ2 = σ) := by
  obtain ⟨a1, a2, a3, a4, a5, a6, a7, a8⟩ := ru_at h hr
  have h8 := mU16_le hI hr
  refine sg_25_0 (d := 2) ?_
  refine ax_down (N := mU A 16 r) (fun i => (∀ j, j < i → mCnt A r j 2 = 0) → ax_wp e0 mo 3 25 (2, [aR (gU L 0 r), aI (nI i)], []) σ _) ?_ (fun i hi ih => ?_) 0 (Nat.zero_le _) (fun j hj => absurd hj (Nat.not_lt_zero j))
  · intro ok
    refine sg_25_2 (d := 2) ⟨ax_kd a1, ?_⟩
    rw [a5]
    refine ⟨ax_kd a8, ax_use0 (ct_157 a7) rfl ?_⟩
    refine sg_25_10 (d := 2) ⟨fun q => absurd q (nI_nlt (Nat.le_refl _) (by omega)), fun _ => ⟨Or.inl rfl, ?_, rfl⟩⟩
    rw [(mRun_zero A r _).mpr ok]; rfl
  · intro ok
    refine sg_25_2 (d := 2) ⟨ax_kd a1, ?_⟩
    rw [a5]
    refine ⟨ax_kd a8, ax_use0 (ct_157 a7) rfl ?_⟩
    refine sg_25_10 (d := 2) ⟨fun _ => ⟨ax_kd a1, ?_⟩, fun q => absurd (nI_lt hi (by omega)) q⟩
    rw [a5]
    refine ⟨ax_kd a8, ax_use0 (ct_160 a7 hi) rfl ?_⟩
    have pk := (pt_at h hr hi).1
    have hc := mCnt_le A r i 2
    refine sg_25_21 (d := 2) ⟨Or.inr (ax_kd pk), ax_kd pk, ax_use0 (ct_12 (s := 2) h hI hr hi (by decide)) rfl ?_⟩
    refine sg_25_28 (d := 2) ⟨fun z => ⟨Or.inr rfl, ?_, rfl⟩, fun z => ?_⟩
    · have z1 := (pos_iff (by omega)).mp z
      rw [nb_ne (fun w => by have := (mRun_zero A r _).mp w i hi; omega)]; rfl
    · have z1 : mCnt A r i 2 = 0 := by
        rcases Nat.eq_zero_or_pos (mCnt A r i 2) with w | w
        · exact w
        · exact absurd ((pos_iff (by omega)).mpr w) z
      rw [nI_1]
      refine ih fun j hj => ?_
      rcases Nat.lt_succ_iff_lt_or_eq.mp hj with w | w
      · exact ok j w
      · rw [w]; exact z1
/-- in a run that goes on the stages are as they are -/
theorem mNx_all (A : MS) (r k : Nat) : ∀ t, mNxT A r k t = (Nat.blt 0 (mCnt A r k 0) && mAll (fun i => !(mBit (mS A 4 k) i) || mOver A r i) t) := by
  intro t
  induction t with
  | zero => exact (Bool.and_true _).symm
  | succ t ih =>
    show (mNxT A r k t && (!(mBit (mS A 4 k) t) || mOver A r t)) = (Nat.blt 0 (mCnt A r k 0) && (mAll (fun i => !(mBit (mS A 4 k) i) || mOver A r i) t && (!(mBit (mS A 4 k) t) || mOver A r t)))
    rw [ih, Bool.and_assoc]
theorem mGd_all (A : MS) (r k : Nat) : ∀ t, mGdT A r k t = mAll (fun i => !(mBit (mS A 4 k) i) || mWellN A r i) t := by
  intro t
  induction t with
  | zero => rfl
  | succ t ih =>
    show (mGdT A r k t && (!(mBit (mS A 4 k) t) || mWellN A r t)) = (mAll (fun i => !(mBit (mS A 4 k) i) || mWellN A r i) t && (!(mBit (mS A 4 k) t) || mWellN A r t))
    rw [ih]
theorem mAll_cong {p q : Nat → Bool} {n : Nat} (h : ∀ k, k < n → p k = q k) : mAll p n = mAll q n := by
  rw [Bool.eq_iff_iff, mAll_iff, mAll_iff]
  exact ⟨fun z k hk => by rw [← h k hk]; exact z k hk, fun z k hk => by rw [h k hk]; exact z k hk⟩
/-- the lowest stage that can begin: its part, or nothing -/
def loR (L : LY) (A : MS) (r : Nat) : Nat := match mLow A r with
  | none => 0
  | some k => gP L 0 r k
theorem ct_20 (h : ax_rc e0 σ x L A) (hI : mB A) (hP : mPB A) (hN : mNow A) (hr : r < mR A) (hG : mG A r) : ax_ok e0 mo 4 20 [aR (gU L 0 r)] σ (fun w σ2 => w = aR (loR L A r) ∧ σ2 = σ) := by
  obtain ⟨a1, a2, a3, a4, a5, a6, a7, a8⟩ := ru_at h hr
  have h8 := mU16_le hI hr
  refine sg_20_0 (d := 3) ?_
  refine ax_down (N := mU A 16 r) (fun i => (∀ j, j < i → mNx A r j = false) → ∀ v : AV, ax_wp e0 mo 4 20 (2, [aR (gU L 0 r), aI (nI i), v], []) σ _) ?_ (fun i hi ih => ?_) 0 (Nat.zero_le _) (fun j hj => absurd hj (Nat.not_lt_zero j)) aU
  · intro ok v
    refine sg_20_2 (d := 3) ⟨ax_kd a1, ?_⟩
    rw [a5]
    refine ⟨ax_kd a8, ax_use0 (ct_157 a7) rfl ?_⟩
    refine sg_20_10 (d := 3) ⟨fun q => absurd q (nI_nlt (Nat.le_refl _) (by omega)), fun _ => ⟨?_, rfl⟩⟩
    unfold loR
    rw [mLow_none.mpr ok]
  · intro ok v
    obtain ⟨pk, -, p3, -, q1, -, -, -⟩ := pt_at h hr hi
    have hc := mCnt_le A r i 0
    have e4 : mP A 4 r i = mS A 4 i := (hN r hr hG).2 i 4 hi (by decide) (by decide)
    have ex := mNx_all A r i (mU A 16 r)
    refine sg_20_2 (d := 3) ⟨ax_kd a1, ?_⟩
    rw [a5]
    refine ⟨ax_kd a8, ax_use0 (ct_157 a7) rfl ?_⟩
    refine sg_20_10 (d := 3) ⟨fun _ => ⟨ax_kd a1, ?_⟩, fun q => absurd (nI_lt hi (by omega)) q⟩
    rw [a5]
    refine ⟨ax_kd a8, ax_use0 (ct_160 a7 hi) rfl ?_⟩
    refine sg_20_21 (d := 3) ⟨Or.inr (ax_kd pk), ax_kd pk, ax_use0 (ct_12 (s := 0) h hI hr hi (by decide)) rfl ?_⟩
    have nx : mNx A r i = false → ∀ v : AV, ax_wp e0 mo 4 20 (2, [aR (gU L 0 r), aI (nI i + 1), v], []) σ (ax_ct (fun w σ2 => w = aR (loR L A r) ∧ σ2 = σ) (fun _ _ => False)) := fun e v => by
      rw [nI_1]
      refine ih (fun j hj => ?_) v
      rcases Nat.lt_succ_iff_lt_or_eq.mp hj with w | w
      · exact ok j w
      · rw [w]; exact e
    refine sg_20_30 (d := 3) ⟨fun z => ⟨ax_kd pk, ax_kd a1, ?_⟩, fun z => nx ?_ _⟩
    · rw [p3]
      refine ax_use0 (ct_21 h hI hP hr hi) rfl ?_
      rw [e4]
      rw [Nat.blt_eq.mpr ((pos_iff (by omega)).mp z), Bool.true_and] at ex
      refine sg_20_41 (d := 3) ⟨fun w => nx ?_ _, fun w => ⟨?_, rfl⟩⟩
      · rw [← bI0 w]; exact ex
      · have e : mNx A r i = true := by rw [← bI1 w]; exact ex
        unfold loR
        rw [mLow_some.mpr ⟨e, hi, ok⟩]
    · show mNxT A r i (mU A 16 r) = false
      rw [ex, not_true_b (b := Nat.blt 0 (mCnt A r i 0)) (fun w => z ((pos_iff (by omega)).mpr (Nat.blt_eq.mp w)))]
      rfl
end
end AXRB
