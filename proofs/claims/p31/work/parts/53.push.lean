/-! The reference's push. -/
section AXNA
/-- what all stages need, as one number -/
def mNs (A : MS) : Nat → Nat
  | 0 => 0
  | n + 1 => mNs A n + 256 ^ n * mS A 4 n
theorem mNs_lt {A : MS} (h : ∀ k, mS A 4 k < 256) : ∀ i, mNs A i < 2 ^ (8 * i) := by
  intro i
  induction i with
  | zero => exact Nat.one_pos
  | succ i ih =>
    have h2 := h i
    show mNs A i + 256 ^ i * mS A 4 i < 2 ^ (8 * (i + 1))
    rw [show (256 : Nat) = 2 ^ 8 from rfl, ← Nat.pow_mul, show 8 * (i + 1) = 8 * i + 8 from rfl, Nat.pow_add]
    have h3 : 2 ^ (8 * i) * mS A 4 i ≤ 2 ^ (8 * i) * 255 := Nat.mul_le_mul_left _ (by omega)
    omega
theorem mNs_top {A : MS} {n : Nat} (h : ∀ k, n ≤ k → mS A 4 k = 0) : ∀ i, mNs A (n + i) = mNs A n := by
  intro i
  induction i with
  | zero => rfl
  | succ i ih =>
    show mNs A (n + i) + 256 ^ (n + i) * mS A 4 (n + i) = _
    rw [h (n + i) (by omega), ih, Nat.mul_zero, Nat.add_zero]
/-- σ1 is σ but for the row of the new run R -/
def ax_nw (σ σ1 : SG) (M : Nat → Nat) (R : Nat) : Prop := sgK σ1 = sgK σ ∧ sgR σ1 = sgR σ ∧ (∀ k i q, ¬ (k = 20 ∧ i = R ∧ (q = M 11 ∨ q = M 12 ∨ q = M 13 ∨ q = M 14)) → ¬ (k = 20 ∧ 128 * R ≤ i ∧ q = M 17) → sgI σ1 k i q = sgI σ k i q) ∧ (∀ i q, ¬ (i = R ∧ q = M 15) → sgJ σ1 22 i q = sgJ σ 22 i q)
section
variable {e0 mo : Nat} {σ σ1 : SG} {m : Nat} {M : Nat → Nat} {A B : MS} {r k j p w R : Nat}
theorem nw_refl (σ : SG) (M : Nat → Nat) (R : Nat) : ax_nw σ σ M R := ⟨rfl, rfl, fun _ _ _ _ _ => rfl, fun _ _ _ => rfl⟩
theorem nw_run (h : ax_nw σ σ1 M R) {i : Nat} (hi : i = 11 ∨ i = 12 ∨ i = 13 ∨ i = 14) {v : Int32} : ax_nw σ (putI σ1 20 R (M i) v) M R := ⟨h.1, h.2.1, fun k' i' q' n1 n2 => by
  rw [gI_putI, if_neg (show ¬ (k' = 20 ∧ i' = R ∧ q' = M i) from fun z => n1 ⟨z.1, z.2.1, by rcases hi with rfl | rfl | rfl | rfl <;> simp [z.2.2]⟩)]
  exact h.2.2.1 k' i' q' n1 n2, h.2.2.2⟩
theorem nw_job (h : ax_nw σ σ1 M R) {i : Nat} (hi : 128 * R ≤ i) {v : Int32} : ax_nw σ (putI σ1 20 i (M 17) v) M R := ⟨h.1, h.2.1, fun k' i' q' n1 n2 => by
  rw [gI_putI, if_neg (show ¬ (k' = 20 ∧ i' = i ∧ q' = M 17) from fun z => n2 ⟨z.1, by omega, z.2.2⟩)]
  exact h.2.2.1 k' i' q' n1 n2, h.2.2.2⟩
theorem nw_need (h : ax_nw σ σ1 M R) {v : Int64} : ax_nw σ (putJ σ1 22 R (M 15) v) M R := ⟨h.1, h.2.1, h.2.2.1, fun i' q' n => by
  rw [gJ_putJ, if_neg (show ¬ (22 = 22 ∧ i' = R ∧ q' = M 15) from fun z => n z.2)]
  exact h.2.2.2 i' q' n⟩
/-- the new run's rows: what it needs of s stages, t jobs -/
def nwF (B : MS) (b x y z : Nat) (σ1 : SG) (M : Nat → Nat) (s t : Nat) : Prop :=
  (sgI σ1 20 (mR B) (M 11) = 7 ∧ sgI σ1 20 (mR B) (M 12) = nI b ∧ sgI σ1 20 (mR B) (M 13) = nI (10000 * x + 100 * y + z) ∧ sgI σ1 20 (mR B) (M 14) = nI (mN B)) ∧ sgJ σ1 22 (mR B) (M 15) = lN (mNs B s) ∧ ∀ k j, k < 8 → j < 16 → 16 * k + j < t → sgI σ1 20 (128 * mR B + 16 * k + j) (M 17) = nI (mNv B b x y z 40 k j)
end
end AXNA
