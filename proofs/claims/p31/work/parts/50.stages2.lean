/-! The reference's calls that write stages: contracts. -/
section AXMX
theorem mUp_same {A : MS} {f r k j v : Nat} (h : A.1 f r k j = v) : mUp A f r k j v = A := by
  refine Prod.ext ?_ rfl
  funext f' r' k' j'
  show (if f' = f ∧ r' = r ∧ k' = k ∧ j' = j then v else A.1 f' r' k' j') = A.1 f' r' k' j'
  by_cases z : f' = f ∧ r' = r ∧ k' = k ∧ j' = j
  · rw [if_pos z]
    obtain ⟨rfl, rfl, rfl, rfl⟩ := z
    exact h.symm
  · rw [if_neg z]
section
variable {e0 mo : Nat} {σ σ1 : SG} {m : Nat} {M : Nat → Nat} {A : MS} {r k j p w : Nat}
theorem mGo_le (hI : mB A) : mGo A ≤ 80 := Nat.le_trans (ax_n_le _ _) hI.1.2
end
end AXMX
