/-! The mathematical state, and how both heaps hold it. Fields of stages (k): 1 rows, 2 columns, 3 excluded, 4 needs, 5 retries, 6 key length, 7 stops fast, 8 may fail, 9 interruptible; of runs (r): 11 state, 12 branch, 13 to 15 inputs, 16 how many stages; of a run's stage (r, k): as of stages; of jobs (r, k, j): 0 state, 1 attempts, 2 failures, 3 restored and one more. States of jobs: 7 stopped by its stage, 8 absent. -/
section AXMS
abbrev MS : Type := (Nat → Nat → Nat → Nat → Nat) × List Nat × List (Nat × Nat)
abbrev mN (A : MS) : Nat := A.1 0 0 0 0
abbrev mR (A : MS) : Nat := A.1 10 0 0 0
abbrev mS (A : MS) (f k : Nat) : Nat := A.1 f k 0 0
abbrev mU (A : MS) (f r : Nat) : Nat := A.1 f r 0 0
abbrev mP (A : MS) (f r k : Nat) : Nat := A.1 (20 + f) r k 0
abbrev mJ (A : MS) (f r k j : Nat) : Nat := A.1 (40 + f) r k j
abbrev mW (A : MS) (w : Nat) : Nat := A.1 50 w 0 0
abbrev mQ (A : MS) : List Nat := A.2.1
abbrev mE (A : MS) : List (Nat × Nat) := A.2.2
abbrev pR (p : Nat) : Nat := p / 128
abbrev pK (p : Nat) : Nat := p % 128 / 16
abbrev pJ (p : Nat) : Nat := p % 16
/-- how many of the first n have it -/
def ax_n (p : Nat → Bool) : Nat → Nat
  | 0 => 0
  | n + 1 => ax_n p n + (if p n then 1 else 0)
theorem ax_n_le (p : Nat → Bool) : ∀ n, ax_n p n ≤ n := by
  intro n
  induction n with
  | zero => exact Nat.le_refl _
  | succ n ih =>
    unfold ax_n
    split <;> omega
theorem ax_n_yes {p : Nat → Bool} {n : Nat} (h : p n = true) : ax_n p (n + 1) = ax_n p n + 1 := by
  show ax_n p n + (if p n then 1 else 0) = _
  rw [if_pos h]
theorem ax_n_no {p : Nat → Bool} {n : Nat} (h : p n = false) : ax_n p (n + 1) = ax_n p n := by
  show ax_n p n + (if p n then 1 else 0) = _
  rw [if_neg (by rw [h]; decide)]
  rfl
theorem ax_n_cong {p q : Nat → Bool} : ∀ {n : Nat}, (∀ k, k < n → p k = q k) → ax_n p n = ax_n q n := by
  intro n
  induction n with
  | zero => intro _; rfl
  | succ n ih =>
    intro h
    show ax_n p n + (if p n then 1 else 0) = ax_n q n + (if q n then 1 else 0)
    rw [ih (fun k hk => h k (by omega)), h n (by omega)]
theorem ax_n_zero {p : Nat → Bool} : ∀ {n : Nat}, ax_n p n = 0 ↔ ∀ k, k < n → p k = false := by
  intro n
  induction n with
  | zero => exact ⟨fun _ k hk => absurd hk (Nat.not_lt_zero k), fun _ => rfl⟩
  | succ n ih =>
    show ax_n p n + (if p n then 1 else 0) = 0 ↔ _
    constructor
    · intro h k hk
      have h1 : ax_n p n = 0 := by omega
      have h2 : p n = false := by
        cases q : p n with
        | false => rfl
        | true => rw [q] at h; simp at h
      rcases Nat.lt_succ_iff_lt_or_eq.mp hk with h3 | h3
      · exact ih.mp h1 k h3
      · rw [h3]; exact h2
    · intro h
      rw [ih.mpr (fun k hk => h k (by omega)), h n (Nat.lt_succ_self n)]
      rfl
/-- loops that count up -/
theorem ax_down {N : Nat} (W : Nat → Prop) (hN : W N) (h : ∀ i, i < N → W (i + 1) → W i) : ∀ i, i ≤ N → W i := by
  have key : ∀ n i, i + n = N → W i := by
    intro n
    induction n with
    | zero =>
      intro i hi
      obtain rfl : i = N := (by omega)
      exact hN
    | succ n ih => intro i hi; exact h i (by omega) (ih (i + 1) (by omega))
  intro i hi
  exact key (N - i) i (by omega)
/-- a job's code in the reference -/
def mC (A : MS) (r k j : Nat) : Nat := mJ A 0 r k j + 16 * mJ A 3 r k j + 128 * mJ A 2 r k j + 512 * mJ A 1 r k j
/-- a run goes on -/
def mG (A : MS) (r : Nat) : Prop := mU A 11 r = 7 ∨ mU A 11 r = 8
/-- a job ended well, as its stage's mark tells -/
def mOk (may s : Nat) : Bool := Nat.beq s 3 || (Nat.beq may 1 && (Nat.beq s 4 || Nat.beq s 7))
def mOv (s : Nat) : Bool := Nat.beq s 3 || Nat.beq s 4 || Nat.beq s 5 || Nat.beq s 6 || Nat.beq s 7
/-- the stage k of the run r ended well -/
def mWell (A : MS) (r k : Nat) : Bool := (List.range 16).all fun j => Nat.beq (mJ A 0 r k j) 8 || mOk (mP A 8 r k) (mJ A 0 r k j)
def mOver (A : MS) (r k : Nat) : Bool := (List.range 16).all fun j => Nat.beq (mJ A 0 r k j) 8 || mOv (mJ A 0 r k j)
/-- how many jobs of a stage have a state -/
def mCnt (A : MS) (r k s : Nat) : Nat := ax_n (fun j => Nat.beq (mJ A 0 r k j) s) 16
def mGb (A : MS) (r : Nat) : Bool := Nat.beq (mU A 11 r) 7 || Nat.beq (mU A 11 r) 8
/-- how many runs go on -/
def mGo (A : MS) : Nat := ax_n (mGb A) (mR A)
/-- inputs as one number -/
def mInp (A : MS) (r : Nat) : Nat := 10000 * mU A 13 r + 100 * mU A 14 r + mU A 15 r
def mPow (n : Nat) : Nat := match n with
  | 0 => 1
  | 1 => 100
  | 2 => 10000
  | _ => 1000000
/-- the key of a length of a run -/
def mKey (A : MS) (r l : Nat) : Nat := mInp A r / mPow (3 - l)
/-- the bits of what ended well -/
def mGoods (A : MS) (r : Nat) : Nat → Nat
  | 0 => 0
  | n + 1 => mGoods A r n + (if mWell A r n then 2 ^ n else 0)
def mNeeds (A : MS) (r : Nat) : Nat → Nat
  | 0 => 0
  | n + 1 => mNeeds A r n + 256 ^ n * mP A 4 r n
/-- bounds -/
def mB (A : MS) : Prop :=
  (mN A ≤ 8 ∧ mR A ≤ 80) ∧
  (∀ k, k < mN A → (1 ≤ mS A 1 k ∧ mS A 1 k ≤ 4) ∧ (1 ≤ mS A 2 k ∧ mS A 2 k ≤ 4) ∧ mS A 3 k < 2 ^ (mS A 1 k * mS A 2 k) ∧ mS A 4 k < 2 ^ mN A) ∧
  (∀ k, mS A 5 k ≤ 2 ∧ mS A 6 k ≤ 3 ∧ mS A 7 k ≤ 1 ∧ mS A 8 k ≤ 1 ∧ mS A 9 k ≤ 1) ∧
  (∀ k f, mN A ≤ k → 1 ≤ f → f ≤ 9 → mS A f k = 0) ∧
  (∀ r, r < mR A → (mU A 11 r = 7 ∨ mU A 11 r = 8 ∨ mU A 11 r = 9 ∨ mU A 11 r = 10 ∨ mU A 11 r = 5) ∧ mU A 12 r < 4 ∧ mU A 13 r < 100 ∧ mU A 14 r < 100 ∧ mU A 15 r < 100 ∧ 1 ≤ mU A 16 r ∧ mU A 16 r ≤ mN A) ∧
  (∀ r k j, r < mR A → mJ A 0 r k j ≤ 8 ∧ mJ A 2 r k j ≤ 2 ∧ mJ A 3 r k j ≤ 4)
/-- what always holds between calls -/
def mI (A : MS) : Prop := mB A ∧
  (∀ r k, r < mR A → k < mU A 16 r → mP A 4 r k < 2 ^ mU A 16 r ∧ mP A 7 r k ≤ 1 ∧ mP A 8 r k ≤ 1 ∧ mP A 9 r k ≤ 1 ∧ mP A 5 r k ≤ 2 ∧ mP A 6 r k ≤ 3) ∧
  (∀ r k f, r < mR A → mG A r → k < mU A 16 r → 1 ≤ f → f ≤ 9 → mP A f r k = mS A f k) ∧
  (∀ r, r < mR A → mG A r → mU A 16 r = mN A) ∧
  (∀ r k j, r < mR A → mU A 16 r ≤ k → mJ A 0 r k j = 8) ∧
  (∀ r k j, r < mR A → 16 ≤ j → mJ A 0 r k j = 8) ∧
  (∀ r k j, r < mR A → mJ A 0 r k j = 8 → mJ A 1 r k j = 0 ∧ mJ A 2 r k j = 0 ∧ mJ A 3 r k j = 0) ∧
  -- queue and workers
  (mQ A).Nodup ∧ (∀ p, p ∈ mQ A ↔ pR p < mR A ∧ mJ A 0 (pR p) (pK p) (pJ p) = 1) ∧
  (∀ w, 4 ≤ w → mW A w = 0) ∧ (∀ w v, mW A w ≠ 0 → mW A w = mW A v → w = v) ∧ (∀ p, (∃ w, mW A w = p + 1) ↔ pR p < mR A ∧ mJ A 0 (pR p) (pK p) (pJ p) = 2) ∧
  -- runs that do not go on have no work left; those that are being cancelled have running jobs alone; of a stage all jobs wait, or none
  (∀ r k j, r < mR A → ¬ mG A r → mJ A 0 r k j ≠ 0 ∧ mJ A 0 r k j ≠ 1 ∧ mJ A 0 r k j ≠ 2) ∧
  (∀ r k j, r < mR A → mU A 11 r = 8 → mJ A 0 r k j ≠ 0 ∧ mJ A 0 r k j ≠ 1) ∧
  (∀ r k j j', r < mR A → mJ A 0 r k j = 0 → mJ A 0 r k j' ≠ 8 → mJ A 0 r k j' = 0) ∧
  -- the cache
  (mE A).length ≤ 10 ∧ (∀ e ∈ mE A, e.1 < mN A ∧ 1 ≤ mS A 6 e.1 ∧ e.2 < mPow (mS A 6 e.1))
end AXMS
