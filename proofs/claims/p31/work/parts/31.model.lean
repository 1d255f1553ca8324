/-! The reference's heap, and its small methods. -/
section AXMD
/-- kinds and lengths of the reference's rows by their fields -/
def ax_md (i : Nat) : Nat × Nat := [(0, 0), (20, 8), (20, 8), (20, 8), (20, 8), (20, 8), (20, 8), (21, 8), (21, 8), (21, 8), (0, 0), (20, 80), (20, 80), (20, 80), (20, 80), (22, 80), (20, 80), (20, 10240), (20, 800), (0, 0), (20, 4), (20, 11)].getD i (0, 0)
def ax_mr (i : Nat) : Prop := i < 22 ∧ i ≠ 0 ∧ i ≠ 10 ∧ i ≠ 19
section
variable {e0 mo : Nat} {σ : SG} {m : Nat} {M : Nat → Nat} {A : MS}
/-- a Boolean as a number -/
abbrev bI (b : Bool) : Int32 := if b then 1 else 0
theorem bI01 (b : Bool) : bI b = 0 ∨ bI b = 1 := by cases b <;> simp [bI]
/-- in a row of n -/
theorem in_nI {n j : Nat} (hj : j < n) (hn : n < 2 ^ 31) : decide ((0 : Int32) ≤ nI j ∧ nI j ≤ nI n - 1) = true := by
  rw [show nI n - 1 = nI (n - 1) from pk_sub (a := n) (b := 1) (by omega)]
  exact decide_eq_true ⟨nI_pos' (by omega), nI_le (by omega) (by omega)⟩
/-- out of a row of n -/
def ax_out (x : Int32) (n : Nat) : Prop := x < 0 ∨ nI n ≤ x
theorem in_out {n : Nat} {x : Int32} (h : ax_out x n) (hn : n < 2 ^ 31) : decide ((0 : Int32) ≤ x ∧ x ≤ nI n - 1) = false := by
  refine decide_eq_false fun z => ?_
  rcases h with h | h
  · exact Int32.not_lt.mpr z.1 h
  · have h0 : (nI n).toInt = n := nI_toInt hn
    have h1 := (fa_le9 _ _).mp h
    have h2 := (fa_le9 _ _).mp z.2
    have h3 : (nI n - 1).toInt = (n : Int) - 1 := by
      rcases Nat.eq_zero_or_pos n with q | q
      · subst q; decide
      · rw [show nI n - 1 = nI (n - 1) from pk_sub (a := n) (b := 1) (by omega), nI_toInt (by omega)]; omega
    omega
where fa_le9 (a b : Int32) : a ≤ b ↔ a.toInt ≤ b.toInt := Int32.le_iff_toInt_le
theorem nb_ne {a b : Nat} (h : a ≠ b) : Nat.beq a b = false := by
  cases q : Nat.beq a b with
  | false => rfl
  | true => exact absurd (ax_beq q) h
theorem mr_of {i : Nat} (h1 : i < 22) (h2 : i ≠ 0) (h3 : i ≠ 10) (h4 : i ≠ 19) : ax_mr i := ⟨h1, h2, h3, h4⟩
end
end AXMD
