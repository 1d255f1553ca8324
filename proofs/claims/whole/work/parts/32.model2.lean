/-! The reference's methods on jobs of a stage of a run. -/
section AXME
section
variable {e0 mo : Nat} {σ : SG} {m : Nat} {M : Nat → Nat} {A : MS} {r k j : Nat}
/-- attempts are few -/
def mT (A : MS) : Prop := ∀ r k j, mJ A 1 r k j ≤ 1000
theorem mC_lt (hI : mB A) (hT : mT A) (hr : r < mR A) : mC A r k j < 2 ^ 30 ∧ mC A r k j % 16 = mJ A 0 r k j := by
  have h1 := (hI.2.2.2.2.2 r k j hr)
  have h2 := hT r k j
  unfold mC
  omega
abbrev pl (r k j : Nat) : Nat := 128 * r + 16 * k + j
theorem rm_job (h : ax_rm σ m M A) (hI : mB A) (hr : r < mR A) (hk : k < 8) (hj : j < 16) : sgR σ 7 17 m = M 17 ∧ ax_in σ 20 (M 17) (nI (pl r k j)) ∧ (nI (pl r k j)).toNatClampNeg = pl r k j ∧ sgI σ 20 (pl r k j) (M 17) = nI (mC A r k j) := by
  obtain ⟨g1, g2⟩ := rm_row h (i := 17) (mr_of (by decide) (by decide) (by decide) (by decide))
  have hR := hI.1.2
  have hp : pl r k j < 10240 := by
    show 128 * r + 16 * k + j < 10240
    omega
  exact ⟨g1, ax_in_nI (n := 10240) g2 (by omega) (by decide), nI_clamp (by omega), h.2.2.2.2.2.2.1 r k j hr hk hj⟩
theorem ct_103 : ax_ok e0 mo 0 103 [aI (nI r), aI (nI k), aI (nI j)] σ (fun w σ2 => w = aI (nI (pl r k j)) ∧ σ2 = σ) := by
  refine sg_103_0 ⟨?_, rfl⟩
  rw [show (128 : Int32) = nI 128 from rfl, show (16 : Int32) = nI 16 from rfl, pk_mul, pk_mul, nI_add, nI_add]
theorem ct_104 (h : ax_rm σ m M A) (hI : mB A) (hT : mT A) (hr : r < mR A) (hk : k < 8) (hj : j < 16) : ax_ok e0 mo 0 104 [aR m, aI (nI (pl r k j))] σ (fun w σ2 => w = aI (nI (mJ A 0 r k j)) ∧ σ2 = σ) := by
  obtain ⟨g1, g2, g3, g4⟩ := rm_job h hI hr hk hj
  obtain ⟨b1, b2⟩ := mC_lt (k := k) (j := j) hI hT hr
  refine sg_104_0 ⟨ax_kd h.1.1, ?_⟩
  rw [g1, g3, g4, show (16 : Int32) = nI 16 from rfl, pk_rem (by omega) (by decide) (by decide), b2]
  exact ⟨g2, by decide, rfl, rfl⟩
/-- the jobs of a stage whose states lie between -/
def mBt (A : MS) (r k a b : Nat) : Nat := ax_n (fun j => Nat.ble a (mJ A 0 r k j) && Nat.ble (mJ A 0 r k j) b) 16
theorem ct_106 (h : ax_rm σ m M A) (hI : mB A) (hT : mT A) (hr : r < mR A) (hk : k < 8) {a b : Nat} (ha : a < 100) (hb : b < 100) : ax_ok e0 mo 1 106 [aR m, aI (nI r), aI (nI k), aI (nI a), aI (nI b)] σ (fun w σ2 => w = aI (nI (mBt A r k a b)) ∧ σ2 = σ) := by
  refine sg_106_0 (d := 0) ?_
  refine ax_down (N := 16) (fun i => ax_wp e0 mo 1 106 (6, [aR m, aI (nI r), aI (nI k), aI (nI a), aI (nI b), aI (nI (ax_n (fun j => Nat.ble a (mJ A 0 r k j) && Nat.ble (mJ A 0 r k j) b) i)), aI (nI i)], []) σ _) ?_ (fun i hi ih => ?_) 0 (Nat.zero_le _)
  · exact sg_106_6 (d := 0) ⟨fun q => absurd q (by decide), fun _ => ⟨rfl, rfl⟩⟩
  · refine sg_106_6 (d := 0) ⟨fun _ => ?_, fun q => absurd (nI_lt (b := 16) hi (by decide)) q⟩
    refine ax_use0 ct_103 rfl ?_
    refine sg_106_23 (d := 0) ⟨ax_kd h.1.1, ?_⟩
    refine ax_use0 (ct_104 h hI hT hr hk hi) rfl ?_
    refine sg_106_26 (d := 0) ?_
    refine ax_use0 (ct_85 _ _ _) rfl ?_
    have hs : mJ A 0 r k i ≤ 8 := (hI.2.2.2.2.2 r k i hr).1
    have e1 : decide (nI a ≤ nI (mJ A 0 r k i) ∧ nI (mJ A 0 r k i) ≤ nI b) = (Nat.ble a (mJ A 0 r k i) && Nat.ble (mJ A 0 r k i) b) := by
      have q1 : nI a ≤ nI (mJ A 0 r k i) ↔ a ≤ mJ A 0 r k i := nI_leI (by omega) (by omega)
      have q2 : nI (mJ A 0 r k i) ≤ nI b ↔ mJ A 0 r k i ≤ b := nI_leI (by omega) (by omega)
      rw [Bool.eq_iff_iff, decide_eq_true_iff, Bool.and_eq_true, Nat.ble_eq, Nat.ble_eq, q1, q2]
    rw [e1]
    refine sg_106_32 (d := 0) ⟨fun q => ?_, fun q => ?_⟩
    · have e2 : (Nat.ble a (mJ A 0 r k i) && Nat.ble (mJ A 0 r k i) b) = false := by
        cases z : (Nat.ble a (mJ A 0 r k i) && Nat.ble (mJ A 0 r k i) b) with
        | false => rfl
        | true => rw [z] at q; exact absurd q (by decide)
      rw [ax_n_no (p := fun j => Nat.ble a (mJ A 0 r k j) && Nat.ble (mJ A 0 r k j) b) e2] at ih
      rw [nI_1, show nI (ax_n (fun j => Nat.ble a (mJ A 0 r k j) && Nat.ble (mJ A 0 r k j) b) i) + 0 = nI (ax_n (fun j => Nat.ble a (mJ A 0 r k j) && Nat.ble (mJ A 0 r k j) b) i) from nI_add _ 0]
      exact ih
    · have e2 : (Nat.ble a (mJ A 0 r k i) && Nat.ble (mJ A 0 r k i) b) = true := by
        cases z : (Nat.ble a (mJ A 0 r k i) && Nat.ble (mJ A 0 r k i) b) with
        | true => rfl
        | false => rw [z] at q; exact absurd rfl q
      rw [ax_n_yes (p := fun j => Nat.ble a (mJ A 0 r k j) && Nat.ble (mJ A 0 r k j) b) e2] at ih
      rw [nI_1, nI_1]
      exact ih
theorem mBt_le (A : MS) (r k a b : Nat) : mBt A r k a b ≤ 16 := ax_n_le _ 16
theorem ct_107 (h : ax_rm σ m M A) (hI : mB A) (hT : mT A) (hr : r < mR A) (hk : k < 8) : ax_ok e0 mo 2 107 [aR m, aI (nI r), aI (nI k)] σ (fun w σ2 => w = aI (nI (mBt A r k 0 7)) ∧ σ2 = σ) := by
  refine sg_107_0 (d := 1) ⟨ax_kd h.1.1, ?_⟩
  refine ax_use0 (ct_106 (a := 0) (b := 7) h hI hT hr hk (by decide) (by decide)) rfl ?_
  exact sg_107_9 (d := 1) ⟨rfl, rfl⟩
/-- all the jobs of a stage have it -/
theorem ax_n_eq {p q : Nat → Bool} (hpq : ∀ j, j < 16 → p j = true → q j = true) : ∀ n, n ≤ 16 → (ax_n p n ≤ ax_n q n ∧ (ax_n p n = ax_n q n ↔ ∀ j, j < n → q j = true → p j = true)) := by
  intro n
  induction n with
  | zero => intro _; exact ⟨Nat.le_refl _, fun _ j hj => absurd hj (Nat.not_lt_zero j), fun _ => rfl⟩
  | succ n ih =>
    intro hn
    obtain ⟨h1, h2⟩ := ih (by omega)
    have h3 := hpq n (by omega)
    show ax_n p n + (if p n then 1 else 0) ≤ ax_n q n + (if q n then 1 else 0) ∧ (ax_n p n + (if p n then 1 else 0) = ax_n q n + (if q n then 1 else 0) ↔ _)
    cases hp : p n with
    | true =>
      rw [h3 hp]
      simp only [if_true]
      refine ⟨by omega, fun e j hj => ?_, fun e => ?_⟩
      · rcases Nat.lt_succ_iff_lt_or_eq.mp hj with z | z
        · exact h2.mp (by omega) j z
        · rw [z]; exact fun _ => hp
      · rw [h2.mpr (fun j hj => e j (by omega))]
    | false =>
      cases hq : q n with
      | false =>
        refine ⟨by simpa using h1, fun e j hj => ?_, fun e => ?_⟩
        · rcases Nat.lt_succ_iff_lt_or_eq.mp hj with z | z
          · exact h2.mp (by simpa using e) j z
          · rw [z, hq]; exact fun z => by cases z
        · rw [h2.mpr (fun j hj => e j (by omega))]
      | true =>
        simp only [if_true]
        refine ⟨by simp; omega, fun e => ?_, fun e => ?_⟩
        · simp at e; omega
        · have := e n (Nat.lt_succ_self n) hq
          rw [hp] at this
          cases this
theorem mOver_iff : mOver A r k = true ↔ ∀ j, j < 16 → mJ A 0 r k j = 8 ∨ mOv (mJ A 0 r k j) = true := by
  unfold mOver
  rw [List.all_eq_true]
  constructor
  · intro h j hj
    have := h j (List.mem_range.mpr hj)
    rw [Bool.or_eq_true] at this
    exact this.imp ax_beq id
  · intro h j hj
    rw [Bool.or_eq_true]
    exact (h j (List.mem_range.mp hj)).imp (fun z => by rw [z]; rfl) id
theorem mWell_iff : mWell A r k = true ↔ ∀ j, j < 16 → mJ A 0 r k j = 8 ∨ mOk (mP A 8 r k) (mJ A 0 r k j) = true := by
  unfold mWell
  rw [List.all_eq_true]
  constructor
  · intro h j hj
    have := h j (List.mem_range.mpr hj)
    rw [Bool.or_eq_true] at this
    exact this.imp ax_beq id
  · intro h j hj
    rw [Bool.or_eq_true]
    exact (h j (List.mem_range.mp hj)).imp (fun z => by rw [z]; rfl) id
theorem ov_iff {s : Nat} (hs : s ≤ 8) : (Nat.ble 0 s && Nat.ble s 7) = true ↔ s ≠ 8 := by
  have e : s = 0 ∨ s = 1 ∨ s = 2 ∨ s = 3 ∨ s = 4 ∨ s = 5 ∨ s = 6 ∨ s = 7 ∨ s = 8 := by omega
  rcases e with rfl | rfl | rfl | rfl | rfl | rfl | rfl | rfl | rfl <;> decide
theorem mOver_cnt (hI : mB A) (hr : r < mR A) : mBt A r k 3 7 = mBt A r k 0 7 ↔ mOver A r k = true := by
  have hs : ∀ j, mJ A 0 r k j ≤ 8 := fun j => (hI.2.2.2.2.2 r k j hr).1
  have h1 := (ax_n_eq (p := fun j => Nat.ble 3 (mJ A 0 r k j) && Nat.ble (mJ A 0 r k j) 7) (q := fun j => Nat.ble 0 (mJ A 0 r k j) && Nat.ble (mJ A 0 r k j) 7) (fun j _ z => by
    simp only [Bool.and_eq_true, Nat.ble_eq] at z ⊢
    omega) 16 (Nat.le_refl _)).2
  rw [mOver_iff]
  refine h1.trans ⟨fun e j hj => ?_, fun e j hj => ?_⟩
  · have h2 := e j hj
    have h3 := hs j
    generalize mJ A 0 r k j = s at h2 h3
    have e : s = 0 ∨ s = 1 ∨ s = 2 ∨ s = 3 ∨ s = 4 ∨ s = 5 ∨ s = 6 ∨ s = 7 ∨ s = 8 := by omega
    rcases e with rfl | rfl | rfl | rfl | rfl | rfl | rfl | rfl | rfl <;> first | exact Or.inl rfl | exact Or.inr rfl | exact absurd (h2 rfl) (by decide)
  · have h2 := e j hj
    have h3 := hs j
    intro h4
    generalize mJ A 0 r k j = s at h2 h3 h4 ⊢
    have e : s = 0 ∨ s = 1 ∨ s = 2 ∨ s = 3 ∨ s = 4 ∨ s = 5 ∨ s = 6 ∨ s = 7 ∨ s = 8 := by omega
    rcases e with rfl | rfl | rfl | rfl | rfl | rfl | rfl | rfl | rfl <;> first | rfl | exact absurd h4 (by decide) | (rcases h2 with h2 | h2 <;> exact absurd h2 (by decide))
theorem ct_108 (h : ax_rm σ m M A) (hI : mB A) (hT : mT A) (hr : r < mR A) (hk : k < 8) : ax_ok e0 mo 3 108 [aR m, aI (nI r), aI (nI k)] σ (fun w σ2 => w = aI (bI (mOver A r k)) ∧ σ2 = σ) := by
  refine sg_108_0 (d := 2) ⟨ax_kd h.1.1, ?_⟩
  refine ax_use0 (ct_106 (a := 3) (b := 7) h hI hT hr hk (by decide) (by decide)) rfl ?_
  refine sg_108_9 (d := 2) ⟨ax_kd h.1.1, ?_⟩
  refine ax_use0 (ct_107 h hI hT hr hk) rfl ?_
  have b1 := mBt_le A r k 3 7
  have b2 := mBt_le A r k 0 7
  have e := mOver_cnt (k := k) hI hr
  refine sg_108_15 (d := 2) ⟨fun q => ⟨Or.inr rfl, ?_, rfl⟩, fun q => ⟨Or.inl rfl, ?_, rfl⟩⟩
  · rw [e.mp ((nI_eq (by omega) (by omega)).mp q)]; rfl
  · have : mOver A r k = false := by
      cases z : mOver A r k with
      | false => rfl
      | true => exact absurd (by rw [e.mpr z]) q
    rw [this]; rfl
theorem rm_st (h : ax_rm σ m M A) {f : Nat} (h1 : 1 ≤ f) (h9 : f ≤ 9) (hk : k < 8) : sgR σ 7 f m = M f ∧ ax_in σ (if f < 7 then 20 else 21) (M f) (nI k) ∧ (nI k).toNatClampNeg = k ∧ sgI σ (if f < 7 then 20 else 21) k (M f) = nI (mS A f k) := by
  obtain ⟨g1, g2⟩ := rm_row h (i := f) (mr_of (by omega) (by omega) (by omega) (by omega))
  have g3 : ax_md f = ((if f < 7 then 20 else 21), 8) := by
    have e : f = 1 ∨ f = 2 ∨ f = 3 ∨ f = 4 ∨ f = 5 ∨ f = 6 ∨ f = 7 ∨ f = 8 ∨ f = 9 := by omega
    rcases e with rfl | rfl | rfl | rfl | rfl | rfl | rfl | rfl | rfl <;> rfl
  rw [g3] at g2
  exact ⟨g1, ax_in_nI g2 hk (by decide), nI_clamp (by omega), h.2.2.1 f k h1 h9 hk⟩
theorem rm_run (h : ax_rm σ m M A) (hI : mB A) {f : Nat} (hf : f = 11 ∨ f = 12 ∨ f = 13 ∨ f = 14 ∨ f = 16) (hr : r < 80) : sgR σ 7 f m = M f ∧ ax_in σ 20 (M f) (nI r) ∧ (nI r).toNatClampNeg = r := by
  obtain ⟨g1, g2⟩ := rm_row h (i := f) (mr_of (by omega) (by omega) (by omega) (by omega))
  have g3 : ax_md f = (20, 80) := by
    rcases hf with rfl | rfl | rfl | rfl | rfl <;> rfl
  rw [g3] at g2
  exact ⟨g1, ax_in_nI g2 hr (by decide), nI_clamp (by omega)⟩
theorem nI0_iff {n : Nat} (h : n < 2 ^ 31) : nI n = 0 ↔ n = 0 := nI_eq (b := 0) h (by decide)
theorem pos_iff {n : Nat} (h : n < 2 ^ 31) : (0 : Int32) < nI n ↔ 0 < n := nI_ltI (a := 0) (by decide) h
/-- a stage of a run has stopped -/
def mStop (A : MS) (r k : Nat) : Bool := Nat.beq (mS A 7 k) 1 && Nat.blt 0 (mCnt A r k 4)
theorem mBt_one (A : MS) (r k s : Nat) : mBt A r k s s = mCnt A r k s := by
  refine ax_n_cong fun j _ => ?_
  rw [Bool.eq_iff_iff, Bool.and_eq_true, Nat.ble_eq, Nat.ble_eq, Nat.beq_eq]
  omega
theorem ct_109 (h : ax_rm σ m M A) (hI : mB A) (hT : mT A) (hr : r < mR A) (hk : k < 8) : ax_ok e0 mo 2 109 [aR m, aI (nI r), aI (nI k)] σ (fun w σ2 => w = aI (bI (mStop A r k)) ∧ σ2 = σ) := by
  obtain ⟨g1, g2, g3, g4⟩ := rm_st h (f := 7) (by decide) (by decide) hk
  have hf : mS A 7 k ≤ 1 := (hI.2.2.1 k).2.2.1
  refine sg_109_0 (d := 1) ⟨ax_kd h.1.1, ?_⟩
  rw [g1, g3, show sgI σ 21 k (M 7) = nI (mS A 7 k) from g4]
  refine ⟨g2, fun q => ⟨Or.inl rfl, ?_, rfl⟩, fun q => ⟨ax_kd h.1.1, ?_⟩⟩
  · unfold mStop
    rw [(nI0_iff (by omega)).mp q]
    rfl
  · have e1 : mS A 7 k = 1 := by
      have : mS A 7 k ≠ 0 := fun z => q (by rw [z]; rfl)
      omega
    refine ax_use0 (ct_106 (a := 4) (b := 4) h hI hT hr hk (by decide) (by decide)) rfl ?_
    have hb := mBt_le A r k 4 4
    rw [mBt_one] at hb ⊢
    refine sg_109_17 (d := 1) ⟨fun q => ⟨Or.inr rfl, ?_, rfl⟩, fun q => ⟨Or.inl rfl, ?_, rfl⟩⟩
    · unfold mStop
      rw [e1, Nat.blt_eq.mpr ((pos_iff (by omega)).mp q)]
      rfl
    · have : Nat.blt 0 (mCnt A r k 4) = false := by
        cases z : Nat.blt 0 (mCnt A r k 4) with
        | false => rfl
        | true => exact absurd ((pos_iff (by omega)).mpr (Nat.blt_eq.mp z)) q
      unfold mStop
      rw [this, Bool.and_false]
      rfl
/-- as the stages are now -/
def mWellN (A : MS) (r k : Nat) : Bool := (List.range 16).all fun j => Nat.beq (mJ A 0 r k j) 8 || mOk (mS A 8 k) (mJ A 0 r k j)
theorem ax_n_add {p q s : Nat → Bool} {n : Nat} (h : ∀ j, j < n → (if s j then 1 else 0) = (if p j then 1 else 0) + (if q j then 1 else 0 : Nat)) : ax_n s n = ax_n p n + ax_n q n := by
  induction n with
  | zero => rfl
  | succ n ih =>
    show ax_n s n + (if s n then 1 else 0) = ax_n p n + (if p n then 1 else 0) + (ax_n q n + (if q n then 1 else 0))
    rw [ih (fun j hj => h j (by omega)), h n (Nat.lt_succ_self n)]
    omega
theorem mWellN_iff : mWellN A r k = true ↔ ∀ j, j < 16 → mJ A 0 r k j = 8 ∨ mOk (mS A 8 k) (mJ A 0 r k j) = true := by
  unfold mWellN
  rw [List.all_eq_true]
  constructor
  · intro h j hj
    have := h j (List.mem_range.mpr hj)
    rw [Bool.or_eq_true] at this
    exact this.imp ax_beq id
  · intro h j hj
    rw [Bool.or_eq_true]
    exact (h j (List.mem_range.mp hj)).imp (fun z => by rw [z]; rfl) id
theorem mWell_cnt (hI : mB A) (hr : r < mR A) : ax_n (fun j => mOk (mS A 8 k) (mJ A 0 r k j)) 16 = mBt A r k 0 7 ↔ mWellN A r k = true := by
  have hs : ∀ j, mJ A 0 r k j ≤ 8 := fun j => (hI.2.2.2.2.2 r k j hr).1
  have hm : mS A 8 k ≤ 1 := (hI.2.2.1 k).2.2.2.1
  generalize hg : mS A 8 k = g at hm
  have eg : g = 0 ∨ g = 1 := by omega
  have h1 := (ax_n_eq (p := fun j => mOk g (mJ A 0 r k j)) (q := fun j => Nat.ble 0 (mJ A 0 r k j) && Nat.ble (mJ A 0 r k j) 7) (fun j _ z => by
    have h3 := hs j
    generalize mJ A 0 r k j = s at h3 z ⊢
    have e : s = 0 ∨ s = 1 ∨ s = 2 ∨ s = 3 ∨ s = 4 ∨ s = 5 ∨ s = 6 ∨ s = 7 ∨ s = 8 := by omega
    rcases eg with rfl | rfl <;> rcases e with rfl | rfl | rfl | rfl | rfl | rfl | rfl | rfl | rfl <;> first | rfl | exact absurd z (by decide)) 16 (Nat.le_refl _)).2
  rw [mWellN_iff, hg]
  refine h1.trans ⟨fun e j hj => ?_, fun e j hj => ?_⟩
  · have h2 := e j hj
    have h3 := hs j
    rcases Nat.lt_or_ge (mJ A 0 r k j) 8 with z | z
    · exact Or.inr (h2 ((ov_iff h3).mpr (by omega)))
    · exact Or.inl (by omega)
  · intro h4
    exact (e j hj).resolve_left ((ov_iff (hs j)).mp h4)
theorem ct_110 (h : ax_rm σ m M A) (hI : mB A) (hT : mT A) (hr : r < mR A) (hk : k < 8) : ax_ok e0 mo 3 110 [aR m, aI (nI r), aI (nI k)] σ (fun w σ2 => w = aI (bI (mWellN A r k)) ∧ σ2 = σ) := by
  obtain ⟨g1, g2, g3, g4⟩ := rm_st h (f := 8) (by decide) (by decide) hk
  have hm : mS A 8 k ≤ 1 := (hI.2.2.1 k).2.2.2.1
  have e := mWell_cnt (k := k) hI hr
  have b1 : ax_n (fun j => mOk (mS A 8 k) (mJ A 0 r k j)) 16 ≤ 16 := ax_n_le _ 16
  have b2 := mBt_le A r k 0 7
  have fin : ∀ x : Nat, x = ax_n (fun j => mOk (mS A 8 k) (mJ A 0 r k j)) 16 → ax_wp e0 mo 3 110 (51, [aR m, aI (nI r), aI (nI k), aI (nI x)], [aI (nI (mBt A r k 0 7)), aI (nI x)]) σ (ax_ct (fun w σ2 => w = aI (bI (mWellN A r k)) ∧ σ2 = σ) (fun _ _ => False)) := by
    intro x hx
    subst hx
    refine sg_110_51 (d := 2) ⟨fun q => ⟨Or.inr rfl, ?_, rfl⟩, fun q => ⟨Or.inl rfl, ?_, rfl⟩⟩
    · rw [e.mp ((nI_eq (by omega) (by omega)).mp q)]; rfl
    · have : mWellN A r k = false := by
        cases z : mWellN A r k with
        | false => rfl
        | true => exact absurd (by rw [e.mpr z]) q
      rw [this]; rfl
  refine sg_110_0 (d := 2) ⟨ax_kd h.1.1, ?_⟩
  refine ax_use0 (ct_106 (a := 3) (b := 3) h hI hT hr hk (by decide) (by decide)) rfl ?_
  rw [mBt_one]
  refine sg_110_8 (d := 2) ⟨ax_kd h.1.1, ?_⟩
  rw [g1, g3, show sgI σ 21 k (M 8) = nI (mS A 8 k) from g4]
  refine ⟨g2, fun q => ⟨ax_kd h.1.1, ?_⟩, fun q => ⟨ax_kd h.1.1, ?_⟩⟩
  · have e1 := (nI0_iff (by omega)).mp q
    refine ax_use0 (ct_107 h hI hT hr hk) rfl ?_
    have e2 := fin (mCnt A r k 3) (ax_n_cong fun j _ => by rw [e1]; unfold mOk; rw [show Nat.beq 0 1 = false from rfl, Bool.false_and, Bool.or_false])
    rw [show nI (mCnt A r k 3) + 0 = nI (mCnt A r k 3) from nI_add _ 0]
    exact e2
  · have e1 : mS A 8 k = 1 := by
      have : mS A 8 k ≠ 0 := fun z => q (by rw [z]; rfl)
      omega
    refine ax_use0 (ct_106 (a := 4) (b := 4) h hI hT hr hk (by decide) (by decide)) rfl ?_
    rw [mBt_one]
    refine sg_110_27 (d := 2) ⟨ax_kd h.1.1, ?_⟩
    refine ax_use0 (ct_106 (a := 7) (b := 7) h hI hT hr hk (by decide) (by decide)) rfl ?_
    rw [mBt_one]
    refine sg_110_37 (d := 2) ⟨ax_kd h.1.1, ?_⟩
    refine ax_use0 (ct_107 h hI hT hr hk) rfl ?_
    rw [nI_add, nI_add]
    refine fin _ ?_
    unfold mCnt
    rw [← ax_n_add (s := fun j => Nat.beq (mJ A 0 r k j) 4 || Nat.beq (mJ A 0 r k j) 7) (fun j _ => ?_), ← ax_n_add (s := fun j => mOk (mS A 8 k) (mJ A 0 r k j)) (fun j _ => ?_)]
    · rw [e1]
      generalize mJ A 0 r k j = s
      unfold mOk
      rw [show Nat.beq 1 1 = true from rfl, Bool.true_and]
      cases q1 : Nat.beq s 3 with
      | false => simp
      | true => obtain rfl := ax_beq q1; rfl
    · generalize mJ A 0 r k j = s
      cases q1 : Nat.beq s 4 with
      | false => simp
      | true => obtain rfl := ax_beq q1; rfl
end
end AXME
