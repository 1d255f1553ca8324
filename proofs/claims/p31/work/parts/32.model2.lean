/-! The reference's methods on jobs of a stage of a run. -/
section AXME
section
variable {e0 mo : Nat} {σ : SG} {m : Nat} {M : Nat → Nat} {A : MS} {r k j : Nat}
/-- attempts are few -/
def mT (A : MS) : Prop := ∀ r k j, mJ A 1 r k j ≤ 1000
theorem mC_lt (hI : mB A) (hT : mT A) (hr : r < mR A) : mC A r k j < 2 ^ 30 ∧ mC A r k j % 16 = mJ A 0 r k j := by
  have h1 := (hI.2.2.2.2.2 r k j hr)
  have h2 := hT r k j
  unfold mC
  omega
abbrev pl (r k j : Nat) : Nat := 128 * r + 16 * k + j
/-- the jobs of a stage whose states lie between -/
def mBt (A : MS) (r k a b : Nat) : Nat := ax_n (fun j => Nat.ble a (mJ A 0 r k j) && Nat.ble (mJ A 0 r k j) b) 16
theorem mBt_le (A : MS) (r k a b : Nat) : mBt A r k a b ≤ 16 := ax_n_le _ 16
/-- all the jobs of a stage have it -/
theorem ax_n_eq {p q : Nat → Bool} (hpq : ∀ j, j < 16 → p j = true → q j = true) : ∀ n, n ≤ 16 → (ax_n p n ≤ ax_n q n ∧ (ax_n p n = ax_n q n ↔ ∀ j, j < n → q j = true → p j = true)) := by
  intro n
  induction n with
  | zero => intro _; exact ⟨Nat.le_refl _, fun _ j hj => absurd hj (Nat.not_lt_zero j), fun _ => rfl⟩
  | succ n ih =>
    intro hn
    obtain ⟨h1, h2⟩ := ih (by omega)
    have h3 := hpq n (by omega)
    show ax_n p n + (if p n then 1 else 0) ≤ ax_n q n + (if q n then 1 else 0) ∧ (ax_n p n + (if p n then 1 else 0) = ax_n q n + (if q n then 1 else 0) ↔ _)
    cases hp : p n with
    | true =>
      rw [h3 hp]
      simp only [if_true]
      refine ⟨by omega, fun e j hj => ?_, fun e => ?_⟩
      · rcases Nat.lt_succ_iff_lt_or_eq.mp hj with z | z
        · exact h2.mp (by omega) j z
        · rw [z]; exact fun _ => hp
      · rw [h2.mpr (fun j hj => e j (by omega))]
    | false =>
      cases hq : q n with
      | false =>
        refine ⟨by simpa using h1, fun e j hj => ?_, fun e => ?_⟩
        · rcases Nat.lt_succ_iff_lt_or_eq.mp hj with z | z
          · exact h2.mp (by simpa using e) j z
          · rw [z, hq]; exact fun z => by cases z
        · rw [h2.mpr (fun j hj => e j (by omega))]
      | true =>
        simp only [if_true]
        refine ⟨by simp; omega, fun e => ?_, fun e => ?_⟩
        · simp at e; omega
        · have := e n (Nat.lt_succ_self n) hq
          rw [hp] at this
          cases this
theorem mOver_iff : mOver A r k = true ↔ ∀ j, j < 16 → mJ A 0 r k j = 8 ∨ mOv (mJ A 0 r k j) = true := by
  unfold mOver
  rw [List.all_eq_true]
  constructor
  · intro h j hj
    have := h j (List.mem_range.mpr hj)
    rw [Bool.or_eq_true] at this
    exact this.imp ax_beq id
  · intro h j hj
    rw [Bool.or_eq_true]
    exact (h j (List.mem_range.mp hj)).imp (fun z => by rw [z]; rfl) id
theorem mWell_iff : mWell A r k = true ↔ ∀ j, j < 16 → mJ A 0 r k j = 8 ∨ mOk (mP A 8 r k) (mJ A 0 r k j) = true := by
  unfold mWell
  rw [List.all_eq_true]
  constructor
  · intro h j hj
    have := h j (List.mem_range.mpr hj)
    rw [Bool.or_eq_true] at this
    exact this.imp ax_beq id
  · intro h j hj
    rw [Bool.or_eq_true]
    exact (h j (List.mem_range.mp hj)).imp (fun z => by rw [z]; rfl) id
theorem ov_iff {s : Nat} (hs : s ≤ 8) : (Nat.ble 0 s && Nat.ble s 7) = true ↔ s ≠ 8 := by
  have e : s = 0 ∨ s = 1 ∨ s = 2 ∨ s = 3 ∨ s = 4 ∨ s = 5 ∨ s = 6 ∨ s = 7 ∨ s = 8 := by omega
  rcases e with rfl | rfl | rfl | rfl | rfl | rfl | rfl | rfl | rfl <;> decide
theorem mOver_cnt (hI : mB A) (hr : r < mR A) : mBt A r k 3 7 = mBt A r k 0 7 ↔ mOver A r k = true := by
  have hs : ∀ j, mJ A 0 r k j ≤ 8 := fun j => (hI.2.2.2.2.2 r k j hr).1
  have h1 := (ax_n_eq (p := fun j => Nat.ble 3 (mJ A 0 r k j) && Nat.ble (mJ A 0 r k j) 7) (q := fun j => Nat.ble 0 (mJ A 0 r k j) && Nat.ble (mJ A 0 r k j) 7) (fun j _ z => by
    simp only [Bool.and_eq_true, Nat.ble_eq] at z ⊢
    omega) 16 (Nat.le_refl _)).2
  rw [mOver_iff]
  refine h1.trans ⟨fun e j hj => ?_, fun e j hj => ?_⟩
  · have h2 := e j hj
    have h3 := hs j
    generalize mJ A 0 r k j = s at h2 h3
    have e : s = 0 ∨ s = 1 ∨ s = 2 ∨ s = 3 ∨ s = 4 ∨ s = 5 ∨ s = 6 ∨ s = 7 ∨ s = 8 := by omega
    rcases e with rfl | rfl | rfl | rfl | rfl | rfl | rfl | rfl | rfl <;> first | exact Or.inl rfl | exact Or.inr rfl | exact absurd (h2 rfl) (by decide)
  · have h2 := e j hj
    have h3 := hs j
    intro h4
    generalize mJ A 0 r k j = s at h2 h3 h4 ⊢
    have e : s = 0 ∨ s = 1 ∨ s = 2 ∨ s = 3 ∨ s = 4 ∨ s = 5 ∨ s = 6 ∨ s = 7 ∨ s = 8 := by omega
    rcases e with rfl | rfl | rfl | rfl | rfl | rfl | rfl | rfl | rfl <;> first | rfl | exact absurd h4 (by decide) | (rcases h2 with h2 | h2 <;> exact absurd h2 (by decide))
theorem nI0_iff {n : Nat} (h : n < 2 ^ 31) : nI n = 0 ↔ n = 0 := nI_eq (b := 0) h (by decide)
theorem pos_iff {n : Nat} (h : n < 2 ^ 31) : (0 : Int32) < nI n ↔ 0 < n := nI_ltI (a := 0) (by decide) h
/-- a stage of a run has stopped -/
def mStop (A : MS) (r k : Nat) : Bool := Nat.beq (mS A 7 k) 1 && Nat.blt 0 (mCnt A r k 4)
theorem mBt_one (A : MS) (r k s : Nat) : mBt A r k s s = mCnt A r k s := by
  refine ax_n_cong fun j _ => ?_
  rw [Bool.eq_iff_iff, Bool.and_eq_true, Nat.ble_eq, Nat.ble_eq, Nat.beq_eq]
  omega
/-- as the stages are now -/
def mWellN (A : MS) (r k : Nat) : Bool := (List.range 16).all fun j => Nat.beq (mJ A 0 r k j) 8 || mOk (mS A 8 k) (mJ A 0 r k j)
theorem ax_n_add {p q s : Nat → Bool} {n : Nat} (h : ∀ j, j < n → (if s j then 1 else 0) = (if p j then 1 else 0) + (if q j then 1 else 0 : Nat)) : ax_n s n = ax_n p n + ax_n q n := by
  induction n with
  | zero => rfl
  | succ n ih =>
    show ax_n s n + (if s n then 1 else 0) = ax_n p n + (if p n then 1 else 0) + (ax_n q n + (if q n then 1 else 0))
    rw [ih (fun j hj => h j (by omega)), h n (Nat.lt_succ_self n)]
    omega
theorem mWellN_iff : mWellN A r k = true ↔ ∀ j, j < 16 → mJ A 0 r k j = 8 ∨ mOk (mS A 8 k) (mJ A 0 r k j) = true := by
  unfold mWellN
  rw [List.all_eq_true]
  constructor
  · intro h j hj
    have := h j (List.mem_range.mpr hj)
    rw [Bool.or_eq_true] at this
    exact this.imp ax_beq id
  · intro h j hj
    rw [Bool.or_eq_true]
    exact (h j (List.mem_range.mp hj)).imp (fun z => by rw [z]; rfl) id
theorem mWell_cnt (hI : mB A) (hr : r < mR A) : ax_n (fun j => mOk (mS A 8 k) (mJ A 0 r k j)) 16 = mBt A r k 0 7 ↔ mWellN A r k = true := by
  have hs : ∀ j, mJ A 0 r k j ≤ 8 := fun j => (hI.2.2.2.2.2 r k j hr).1
  have hm : mS A 8 k ≤ 1 := (hI.2.2.1 k).2.2.2.1
  generalize hg : mS A 8 k = g at hm
  have eg : g = 0 ∨ g = 1 := by omega
  have h1 := (ax_n_eq (p := fun j => mOk g (mJ A 0 r k j)) (q := fun j => Nat.ble 0 (mJ A 0 r k j) && Nat.ble (mJ A 0 r k j) 7) (fun j _ z => by
    have h3 := hs j
    generalize mJ A 0 r k j = s at h3 z ⊢
    have e : s = 0 ∨ s = 1 ∨ s = 2 ∨ s = 3 ∨ s = 4 ∨ s = 5 ∨ s = 6 ∨ s = 7 ∨ s = 8 := by omega
    rcases eg with rfl | rfl <;> rcases e with rfl | rfl | rfl | rfl | rfl | rfl | rfl | rfl | rfl <;> first | rfl | exact absurd z (by decide)) 16 (Nat.le_refl _)).2
  rw [mWellN_iff, hg]
  refine h1.trans ⟨fun e j hj => ?_, fun e j hj => ?_⟩
  · have h2 := e j hj
    have h3 := hs j
    rcases Nat.lt_or_ge (mJ A 0 r k j) 8 with z | z
    · exact Or.inr (h2 ((ov_iff h3).mpr (by omega)))
    · exact Or.inl (by omega)
  · intro h4
    exact (e j hj).resolve_left ((ov_iff (hs j)).mp h4)
end
end AXME
